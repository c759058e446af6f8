/** Sentences of promise 5: the acts, at the edges of what they take and of what may come. */
final class ActSentences {
  private static final String GREATEST = "2^256-1";
  private static final String LEAST = "-2^256+1";

  private final Sentences s;

  ActSentences(Sentences sentences) {
    s = sentences;
  }

  void all() {
    kinds();
    greatestP();
    tooGreatP();
    greatestQ();
    tooGreatQ();
    down();
    cut();
    rests();
    inBetween();
    commonDivisor();
    wholeOnes();
    powers();
    powerEnds();
    doublings();
    doublingEnds();
    lesserAndGreater();
  }

  private void kinds() {
    s.says("ACTS: 0 a + b, 1 a - b, 2 a * b, 3 a / b. 4 DOWN of a / b, 5 a - b * that. 6 CUT of a / b, 7 a - b * that.", 5);
    String[] wants = {"-2/3", "-11/3", "-13/4", "-13/9", "-2", "5/6", "-1", "-2/3"};
    for (int act = 0; act < wants.length; act++) {
      s.acts(act, "-13/6", "3/2", wants[act]);
    }
    s.says("a kind, or what is not as told", 5);
    for (int act : new int[] {-1, 13, Integer.MIN_VALUE, Integer.MAX_VALUE, 256}) {
      s.refusesAct(Sentences.NOT_AS_TOLD, act, "1", "1");
    }
  }

  private void greatestP() {
    s.says("P without its sign, and Q, are below 2^256.", 5);
    s.acts(0, "2^256-2", "1", GREATEST);
    s.acts(0, "-2^256+2", "-1", LEAST);
    s.acts(0, GREATEST, "0", GREATEST);
    s.acts(1, "2^255-1", "-2^255", GREATEST);
    s.acts(1, "-2^255", "2^255-1", LEAST);
    s.acts(1, "0", GREATEST, LEAST);
    s.acts(2, "2^128-1", "2^128+1", GREATEST);
    s.acts(2, "2^128-1", "-2^128-1", LEAST);
    s.acts(3, GREATEST, "-1", LEAST);
    s.acts(3, "2^255-1", "1/2", "2^256-2");
    s.acts(4, GREATEST, "1", GREATEST);
    s.acts(4, GREATEST, "-1", LEAST);
    s.acts(6, GREATEST, "1", GREATEST);
    s.acts(6, GREATEST, "-1", LEAST);
    s.acts(8, GREATEST, LEAST, GREATEST);
    s.acts(8, LEAST, "0", GREATEST);
    s.acts(9, "2", "255", "2^255");
    s.acts(9, "-2", "255", "-2^255");
    s.acts(9, "-2^128+1", "2", "2^256-2^129+1");
    s.acts(9, LEAST, "1", LEAST);
    s.acts(9, "-1/2^256-1", "-1", LEAST);
    s.acts(9, "3", "161", "3^161");
    s.acts(10, "1", "255", "2^255");
    s.acts(10, "-2^255+1", "1", "-2^256+2");
    s.acts(10, LEAST, "0", LEAST);
    s.acts(11, GREATEST, LEAST, LEAST);
    s.acts(12, GREATEST, LEAST, GREATEST);
  }

  private void tooGreatP() {
    s.says("P or Q would be too great", 5);
    s.refusesAct(Sentences.TOO_MUCH, 0, GREATEST, "1");
    s.refusesAct(Sentences.TOO_MUCH, 0, LEAST, "-1");
    s.refusesAct(Sentences.TOO_MUCH, 0, GREATEST, GREATEST);
    s.refusesAct(Sentences.TOO_MUCH, 0, "2^255", "1/2");
    s.refusesAct(Sentences.TOO_MUCH, 1, "2^255", "-2^255");
    s.refusesAct(Sentences.TOO_MUCH, 1, "-2^255", "2^255");
    s.refusesAct(Sentences.TOO_MUCH, 2, "2^128", "2^128");
    s.refusesAct(Sentences.TOO_MUCH, 2, "2^128", "-2^128");
    s.refusesAct(Sentences.TOO_MUCH, 2, GREATEST, LEAST);
    s.refusesAct(Sentences.TOO_MUCH, 3, "2^255", "1/2");
    s.refusesAct(Sentences.TOO_MUCH, 3, "2^255", "-1/2");
    s.refusesAct(Sentences.TOO_MUCH, 4, "2^255", "1/2");
    s.refusesAct(Sentences.TOO_MUCH, 4, "2^255", "-1/2");
    s.refusesAct(Sentences.TOO_MUCH, 6, "2^255", "1/2");
    s.refusesAct(Sentences.TOO_MUCH, 6, "-2^255", "1/2");
    s.refusesAct(Sentences.TOO_MUCH, 9, "2", "256");
    s.refusesAct(Sentences.TOO_MUCH, 9, "-2", "257");
    s.refusesAct(Sentences.TOO_MUCH, 9, "2^128", "2");
    s.refusesAct(Sentences.TOO_MUCH, 9, "3", "162");
    s.refusesAct(Sentences.TOO_MUCH, 9, "1/2", "-256");
    s.refusesAct(Sentences.TOO_MUCH, 9, GREATEST, "300");
    // Far too great, with all lower words 0.
    for (String a : new String[] {"-2^64", "2^85+2^84", "2^127", "2^128", "-2^255", "2^256-2^203"}) {
      for (String b : new String[] {"4", "6", "7", "-6", "299", "300", "-300"}) {
        s.refusesAct(Sentences.TOO_MUCH, 9, a, b);
      }
    }
    s.refusesAct(Sentences.TOO_MUCH, 10, "1", "256");
    s.refusesAct(Sentences.TOO_MUCH, 10, "-2^255", "1");
    s.refusesAct(Sentences.TOO_MUCH, 10, GREATEST, "600");
  }

  private void greatestQ() {
    s.says("P without its sign, and Q, are below 2^256.", 5);
    s.acts(0, "1/2^254", "1/3", "2^254+3/3*2^254");
    s.acts(0, "1/2^256-1", "0", "1/2^256-1");
    s.acts(1, "1/3", "1/2^254", "2^254-3/3*2^254");
    s.acts(1, "0", "1/2^256-1", "-1/2^256-1");
    s.acts(2, "1/2^128-1", "-1/2^128+1", "-1/2^256-1");
    s.acts(3, "1/2^128-1", "-2^128-1", "-1/2^256-1");
    s.acts(3, "-1", GREATEST, "-1/2^256-1");
    s.acts(5, "2^254-1/2^254", "1/3", "2^254-3/3*2^254");
    s.acts(7, "-2^254+1/2^254", "1/3", "-2^254+3/3*2^254");
    s.acts(9, "-2", "-255", "-1/2^255");
    s.acts(9, "1/2", "255", "1/2^255");
    s.acts(9, "-2^256+1", "-1", "-1/2^256-1");
    s.acts(10, "1", "-255", "1/2^255");
    s.acts(10, "-2", "-256", "-1/2^255");
    s.acts(10, "-1/2^255-1", "-1", "-1/2^256-2");
  }

  private void tooGreatQ() {
    s.says("P or Q would be too great", 5);
    s.refusesAct(Sentences.TOO_MUCH, 0, "1/2^255", "1/3");
    s.refusesAct(Sentences.TOO_MUCH, 1, "1/3", "1/2^255");
    s.refusesAct(Sentences.TOO_MUCH, 2, "1/2^128", "1/2^128");
    s.refusesAct(Sentences.TOO_MUCH, 2, "-1/2^255", "1/2");
    s.refusesAct(Sentences.TOO_MUCH, 3, "1/2^255", "2");
    s.refusesAct(Sentences.TOO_MUCH, 3, "1/2^256-1", GREATEST);
    s.refusesAct(Sentences.TOO_MUCH, 5, "2^255-1/2^255", "1/3");
    s.refusesAct(Sentences.TOO_MUCH, 7, "2^255-1/2^255", "1/3");
    s.refusesAct(Sentences.TOO_MUCH, 9, "2", "-256");
    s.refusesAct(Sentences.TOO_MUCH, 9, "1/2", "256");
    s.refusesAct(Sentences.TOO_MUCH, 9, "3", "-162");
    s.refusesAct(Sentences.TOO_MUCH, 10, "1", "-256");
    s.refusesAct(Sentences.TOO_MUCH, 10, "3/2^255", "-1");
    s.refusesAct(Sentences.TOO_MUCH, 10, "1", "-600");
  }

  private void down() {
    s.says("DOWN of x: the greatest whole number that is not above it.", 5);
    s.acts(4, "0", "-3", "0");
    s.acts(4, "6", "3", "2");
    s.acts(4, "-6", "3", "-2");
    s.acts(4, "5", "3", "1");
    s.acts(4, "-5", "3", "-2");
    s.acts(4, "5", "-3", "-2");
    s.acts(4, "-5", "-3", "1");
    s.acts(4, "1", GREATEST, "0");
    s.acts(4, "-1", GREATEST, "-1");
    s.acts(4, "1", "-2^256+1", "-1");
    s.acts(4, "-1/2^256-1", "1", "-1");
    s.acts(4, "-2^256+1/2", "1", "-2^255");
    s.acts(4, "2^32-1/2", "1/2", "2^32-1");
    s.acts(4, "-2^33+1/2", "1", "-2^32");
    s.acts(4, "-2^65+1/2", "1", "-2^64");
    // CUT of these is - (2^256 - 1), DOWN one less: only that is too great.
    s.refusesAct(Sentences.TOO_MUCH, 4, "2^256-2", "-2^256+3/2^256-2");
    s.acts(6, "2^256-2", "-2^256+3/2^256-2", LEAST);
    s.acts(4, "2^256-2", "2^256-3/2^256-2", GREATEST);
  }

  private void cut() {
    s.says("CUT of x: DOWN, for x below 0 that of - x with its sign.", 5);
    s.acts(6, "0", "-3", "0");
    s.acts(6, "-6", "3", "-2");
    s.acts(6, "5", "3", "1");
    s.acts(6, "-5", "3", "-1");
    s.acts(6, "5", "-3", "-1");
    s.acts(6, "-5", "-3", "1");
    s.acts(6, "-1", GREATEST, "0");
    s.acts(6, "-2", "3", "0");
    s.acts(6, "-3", "3", "-1");
    s.acts(6, LEAST, "2", "-2^255+1");
  }

  private void rests() {
    s.says("4 DOWN of a / b, 5 a - b * that. 6 CUT of a / b, 7 a - b * that.", 5);
    s.acts(5, "6", "3", "0");
    s.acts(5, "-6", "-3", "0");
    s.acts(5, "5", "3", "2");
    s.acts(5, "-5", "3", "1");
    s.acts(5, "5", "-3", "-1");
    s.acts(5, "-5", "-3", "-2");
    s.acts(5, "2", "3", "2");
    s.acts(5, "-1", GREATEST, "2^256-2");
    s.acts(5, "1", LEAST, "-2^256+2");
    s.acts(7, "-6", "3", "0");
    s.acts(7, "5", "3", "2");
    s.acts(7, "-5", "3", "-2");
    s.acts(7, "5", "-3", "2");
    s.acts(7, "-5", "-3", "-2");
    s.acts(7, "-1", GREATEST, "-1");
    s.acts(7, LEAST, "2^255", "-2^255+1");
  }

  private void inBetween() {
    s.says("What is made in between may be as great as it likes; what comes is as told.", 5);
    // Sums and products of 512 bits, in lowest terms small.
    s.acts(0, "2^256-2/2^256-1", "1/2^256-1", "1");
    s.acts(0, "1/2^256-1", "-1/2^256-1", "0");
    s.acts(1, "2^256-2/2^256-1", "-1/2^256-1", "1");
    s.acts(2, "2^256-1/2^256-3", "2^256-3/2^256-1", "1");
    s.acts(2, "2^255", "-1/2^255", "-1");
    s.acts(3, "2^256-1/2^256-3", "2^256-1/2^256-3", "1");
    s.acts(3, "1/2^255", "-1/2^255", "-1");
    // The quotient has 512 bits and does not come; the rest does.
    s.acts(5, GREATEST, "2/2^256-1", "1/2^256-1");
    s.acts(5, LEAST, "8/2^256-1", "7/2^256-1");
    s.acts(5, GREATEST, "1/2^256-1", "0");
    s.acts(7, LEAST, "4/2^256-1", "-1/2^256-1");
    s.acts(7, GREATEST, "-4/2^256-1", "1/2^256-1");
    s.acts(4, GREATEST, "2^256-1/2^256-3", "2^256-3");
    s.acts(6, "2^256-1/2^256-3", "2^256-1/2^256-3", "1");
    // Twos that go away on the one side before they come on the other.
    s.acts(10, "1/2^255", "510", "2^255");
    s.acts(10, "2^255", "-510", "1/2^255");
    s.refusesAct(Sentences.TOO_MUCH, 10, "1/2^255", "511");
    s.refusesAct(Sentences.TOO_MUCH, 10, "2^255", "-511");
    s.acts(10, "2^256-2^203/3", "-203", "2^53-1/3");
    s.acts(10, "3/2^255", "509", "3*2^254");
    s.refusesAct(Sentences.TOO_MUCH, 10, "3/2^255", "510");
  }

  private void commonDivisor() {
    s.says("8 of WHOLE ones: the greatest number that divides both (0 of 0 and 0).", 5);
    s.acts(8, "0", "0", "0");
    s.acts(8, "0", "1", "1");
    s.acts(8, "-7", "0", "7");
    s.acts(8, "0", "-7", "7");
    s.acts(8, "-12", "18", "6");
    s.acts(8, "-12", "-18", "6");
    s.acts(8, "1", GREATEST, "1");
    s.acts(8, GREATEST, "2^256-2", "1");
    s.acts(8, GREATEST, "2^128+1", "2^128+1");
    s.acts(8, "2^255", "2^256-2^200", "2^200");
    s.acts(8, "3^161", "3^100*2^90", "3^100");
    s.refusesAct(Sentences.NOT_AS_TOLD, 8, "1/2", "1");
    s.refusesAct(Sentences.NOT_AS_TOLD, 8, "1", "1/2");
    s.refusesAct(Sentences.NOT_AS_TOLD, 8, "0", "-1/2^256-1");
    s.refusesAct(Sentences.NOT_AS_TOLD, 8, "1/3", "1/2");
    s.refusesAct(Sentences.NOT_AS_TOLD, 8, "1/2^32+1", "1");
  }

  private void wholeOnes() {
    s.says("WHOLE are those with Q 1.", 5);
    s.acts(8, "4/2", "-6/3", "2");
    s.acts(9, "3", "4/2", "9");
    s.acts(10, "3", "-4/2", "3/4");
    s.acts(9, "3", "0/5", "1");
    s.refusesAct(Sentences.NOT_AS_TOLD, 9, "3", "1/2");
    s.refusesAct(Sentences.NOT_AS_TOLD, 9, "3", "299/2^32+1");
    s.refusesAct(Sentences.NOT_AS_TOLD, 10, "3", "-1/2");
    s.refusesAct(Sentences.NOT_AS_TOLD, 10, "3", "1/2^64+1");
  }

  private void powers() {
    s.says("9 a to the b, b WHOLE, -300 .. 300 (b below 0: 1 / a to the - b; to the 0: 1).", 5);
    s.acts(9, "0", "0", "1");
    s.acts(9, "-5/7", "0", "1");
    s.acts(9, GREATEST, "0", "1");
    s.acts(9, "-1/2^256-1", "0", "1");
    s.acts(9, "0", "1", "0");
    s.acts(9, "0", "300", "0");
    s.acts(9, "-5/7", "1", "-5/7");
    s.acts(9, "-5/7", "-1", "-7/5");
    s.acts(9, "-5/7", "2", "25/49");
    s.acts(9, "-5/7", "-3", "-343/125");
    s.acts(9, "1", "300", "1");
    s.acts(9, "1", "-300", "1");
    s.acts(9, "-1", "300", "1");
    s.acts(9, "-1", "299", "-1");
    s.acts(9, "-1", "-299", "-1");
    s.acts(9, "-1", "-300", "1");
    s.acts(9, "2/3", "-161", "3^161/2^161");
    s.refusesAct(Sentences.BY_ZERO, 9, "0", "-1");
    s.refusesAct(Sentences.BY_ZERO, 9, "0", "-300");
  }

  private void powerEnds() {
    s.says("b WHOLE, -300 .. 300", 5);
    String[] beyond = {
      "301", "-301", "2^31", "-2^31", "2^32", "-2^32", "2^32+1", "2^63", "2^64", "-2^64", "2^64+1", "-2^64-1",
      "2^96+1", "2^255", GREATEST, LEAST, "601/2", "-1/2", "1/2^255",
    };
    for (String b : beyond) {
      s.refusesAct(Sentences.NOT_AS_TOLD, 9, "1", b);
    }
  }

  private void doublings() {
    s.says("10 a times 2 to the b, b WHOLE, -600 .. 600.", 5);
    s.acts(10, "0", "600", "0");
    s.acts(10, "0", "-600", "0");
    s.acts(10, "-5/7", "0", "-5/7");
    s.acts(10, "-5/7", "1", "-10/7");
    s.acts(10, "-5/7", "-1", "-5/14");
    s.acts(10, "-5/8", "2", "-5/2");
    s.acts(10, "-5/8", "3", "-5");
    s.acts(10, "-5/8", "4", "-10");
    s.acts(10, "12", "-2", "3");
    s.acts(10, "12", "-3", "3/2");
    s.acts(10, "1", "32", "2^32");
    s.acts(10, "1", "31", "2^31");
    s.acts(10, "2^200", "-64", "2^136");
    s.refusesAct(Sentences.TOO_MUCH, 10, "1", "600");
    s.refusesAct(Sentences.TOO_MUCH, 10, "1/2^255", "600");
    s.refusesAct(Sentences.TOO_MUCH, 10, "2^255", "-600");
  }

  private void doublingEnds() {
    s.says("b WHOLE, -600 .. 600", 5);
    String[] beyond = {
      "601", "-601", "2^31", "-2^31", "2^32", "-2^32", "2^32+1", "2^63", "2^64", "-2^64", "2^64+1", "-2^64-1",
      "2^96+1", "2^255", GREATEST, LEAST, "1201/2", "-1/2", "1/2^255",
    };
    for (String b : beyond) {
      s.refusesAct(Sentences.NOT_AS_TOLD, 10, "0", b);
    }
  }

  private void lesserAndGreater() {
    s.says("11 the lesser one, 12 the greater one.", 5);
    chooses("0", "0", "0", "0");
    chooses("1/2", "2/4", "1/2", "1/2");
    chooses("-1", "1", "-1", "1");
    chooses("0", "1/2^256-1", "0", "1/2^256-1");
    chooses("0", "-1/2^256-1", "-1/2^256-1", "0");
    chooses("2^256-2", GREATEST, "2^256-2", GREATEST);
    chooses("-2^256+2", LEAST, LEAST, "-2^256+2");
    chooses("2^256-3/2^256-2", "2^256-2/2^256-1", "2^256-3/2^256-2", "2^256-2/2^256-1");
    chooses("-2^256+3/2^256-2", "-2^256+2/2^256-1", "-2^256+2/2^256-1", "-2^256+3/2^256-2");
  }

  private void chooses(String a, String b, String lesser, String greater) {
    s.acts(11, a, b, lesser);
    s.acts(11, b, a, lesser);
    s.acts(12, a, b, greater);
    s.acts(12, b, a, greater);
  }
}
