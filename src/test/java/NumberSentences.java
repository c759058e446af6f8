/** Sentences of promises 1 to 4 and 6 to 12: numbers as they are made, kept, looked at and gone. */
final class NumberSentences {
  private static final String[] ZEROS = {"0", "0/5"};
  private static final String GREATEST = "2^256-1";

  private final Sentences s;

  NumberSentences(Sentences sentences) {
    s = sentences;
  }

  void all() {
    newObject();
    lastCall();
    whole();
    fraction();
    lowestTerms();
    zero();
    real();
    below2To256();
    numbering();
    staying();
    clear();
    words();
    signs();
    lengths();
    wrapEdges();
    wrapCuts();
    orderEdges();
  }

  private void newObject() {
    s.says("`NumberModels()`: No NUMBERS.", 1);
    NumberModels x = new NumberModels();
    s.is("count()", x::count, 0);
    s.is("clear()", x::clear, 0);
    NumberModels other = new NumberModels();
    s.is("whole(4) in another one", () -> other.whole(4), 0);
    s.is("count() beside it", x::count, 0);
    s.is("count() of one made after it", new NumberModels()::count, 0);
  }

  private void lastCall() {
    s.says("An object is used for at most 512 calls after it has been made", 1);
    NumberModels x = new NumberModels();
    int there = 0;
    for (int call = 1; call < 512; call++) {
      long value = call;
      if (there == 60) {
        s.is("call " + call + ", clear()", x::clear, 60);
        there = 0;
      } else {
        s.is("call " + call + ", whole()", () -> x.whole(value), there);
        there++;
      }
    }
    int last = there - 1;
    s.is("call 512, word()", () -> x.word(last, 0), 511);
  }

  private void wholeIs(long value, String want) {
    NumberModels x = new NumberModels();
    s.is("whole(" + value + ")", () -> x.whole(value), 0);
    s.isNumber("whole(" + value + ")", x, 0, want);
  }

  private void whole() {
    s.says("A WHOLE one: its number.", 2);
    wholeIs(0, "0");
    wholeIs(1, "1");
    wholeIs(-1, "-1");
    wholeIs(0xffffffffL, "2^32-1");
    wholeIs(0x100000000L, "2^32");
    wholeIs(-0x100000000L, "-2^32");
    wholeIs(Long.MAX_VALUE, "2^63-1");
    wholeIs(Long.MIN_VALUE + 1, "-2^63+1");
    wholeIs(Long.MIN_VALUE, "-2^63");
  }

  private void fractionIs(long p, long q, String want) {
    NumberModels x = new NumberModels();
    s.is("fraction(" + p + ", " + q + ")", () -> x.fraction(p, q), 0);
    s.isNumber("fraction(" + p + ", " + q + ")", x, 0, want);
  }

  private void fraction() {
    s.says("p / q: its number. ArithmeticException: q is 0", 3);
    fractionIs(1, 1, "1");
    fractionIs(1, -1, "-1");
    fractionIs(Long.MIN_VALUE, 1, "-2^63");
    fractionIs(Long.MIN_VALUE, -1, "2^63");
    fractionIs(1, Long.MIN_VALUE, "-1/2^63");
    fractionIs(-1, Long.MIN_VALUE, "1/2^63");
    fractionIs(1, Long.MAX_VALUE, "1/2^63-1");
    fractionIs(Long.MAX_VALUE, Long.MIN_VALUE, "-2^63+1/2^63");
    fractionIs(Long.MIN_VALUE, Long.MAX_VALUE, "-2^63/2^63-1");
    for (long p : new long[] {0, 1, -1, Long.MIN_VALUE, Long.MAX_VALUE}) {
      s.refuses("fraction(" + p + ", 0)", Sentences.BY_ZERO, () -> new Prepared("3/4"), o -> o.x.fraction(p, 0));
    }
  }

  private void lowestTerms() {
    s.says("NUMBERS are P / Q, in lowest terms, Q above 0 (of 0:", 2, 3, 4, 5);
    fractionIs(6, 4, "3/2");
    fractionIs(6, -4, "-3/2");
    fractionIs(-6, 4, "-3/2");
    fractionIs(-6, -4, "3/2");
    fractionIs(Long.MIN_VALUE, Long.MIN_VALUE, "1");
    fractionIs(Long.MAX_VALUE, -Long.MAX_VALUE, "-1");
    fractionIs(Long.MIN_VALUE, 6, "-2^62/3");
    fractionIs(6, Long.MIN_VALUE, "-3/2^62");
    fractionIs(Long.MAX_VALUE, 49, "188232082384791343");
    realIs(0.75, "3/4");
    realIs(-12, "-12");
    s.acts(0, "1/6", "1/3", "1/2");
    s.acts(1, "1/2", "5/6", "-1/3");
    s.acts(2, "-2/3", "3/2", "-1");
    s.acts(3, "2/3", "-4/3", "-1/2");
    s.acts(5, "7/6", "2/3", "1/2");
    s.acts(7, "-7/6", "2/3", "-1/2");
    s.acts(9, "-2/3", "-1", "-3/2");
    s.acts(9, "-2/3", "-2", "9/4");
    s.acts(10, "-3/4", "1", "-3/2");
    s.acts(10, "-3/4", "3", "-6");
    s.acts(10, "6", "-2", "3/2");
  }

  private void isZero(String what, NumberModels x, int a) {
    s.isNumber(what, x, a, "0");
    s.is(what + ": order beside 0", () -> x.order(a, x.whole(0)), 0);
  }

  private void zero() {
    s.says("0 / 1); P without its sign, and Q, are below 2^256.", 2, 3, 4, 5);
    for (long q : new long[] {1, -1, 7, Long.MIN_VALUE, Long.MAX_VALUE}) {
      NumberModels x = new NumberModels();
      x.fraction(0, q);
      isZero("fraction(0, " + q + ")", x, 0);
    }
    for (long zero : new long[] {0, Sentences.SIGN}) {
      NumberModels x = new NumberModels();
      x.real(zero);
      isZero("real(" + zero + ")", x, 0);
    }
    for (String zero : ZEROS) {
      s.acts(0, zero, "0", "0");
      s.acts(2, zero, "-5/7", "0");
      s.acts(2, "-5/7", zero, "0");
      s.acts(3, zero, "-5/7", "0");
      s.acts(4, zero, "-5/7", "0");
      s.acts(5, zero, "-5/7", "0");
      s.acts(6, zero, "-5/7", "0");
      s.acts(7, zero, "-5/7", "0");
      s.acts(9, zero, "1", "0");
      s.acts(10, zero, "-600", "0");
    }
    s.acts(0, "-5/7", "5/7", "0");
    s.acts(1, "-5/7", "-5/7", "0");
    s.acts(4, "1/3", "5/7", "0");
    s.acts(5, "10/7", "-5/7", "0");
    s.acts(6, "-1/3", "5/7", "0");
    s.acts(7, "-10/7", "5/7", "0");
  }

  private void realIs(double value, String want) {
    NumberModels x = new NumberModels();
    s.is("real(" + value + ")", () -> x.real(Sentences.bits(value)), 0);
    s.isNumber("real(" + value + ")", x, 0, want);
  }

  private void realIsTooGreat(double value) {
    String what = "real(" + value + ")";
    s.refuses(what, Sentences.TOO_MUCH, () -> new Prepared("-3/4"), o -> o.x.real(Sentences.bits(value)));
  }

  private void real() {
    s.says("What a double is: its number.", 4);
    realIs(0.0, "0");
    realIs(-0.0, "0");
    realIs(1, "1");
    realIs(-0.5, "-1/2");
    realIs(Math.nextUp(1.0), "2^52+1/2^52");
    realIs(Math.nextDown(1.0), "2^53-1/2^53");
    realIs(0x1p52 + 1, "2^52+1");
    realIs(-0x1p53 - 2, "-2^53-2");
    realIs(0x1.8p63, "3*2^62");
    s.says("e all 1s: infinite, if f is 0, else NO NUMBER", 4);
    for (long bits : new long[] {Sentences.INFINITE, Sentences.INFINITE | Sentences.SIGN}) {
      s.refuses("real(" + bits + ")", Sentences.BY_ZERO, () -> new Prepared("-3/4"), o -> o.x.real(bits));
    }
    for (long bits : Sentences.NO_NUMBERS) {
      s.refuses("real(" + bits + ")", Sentences.BY_ZERO, () -> new Prepared("-3/4"), o -> o.x.real(bits));
    }
    realIsTooGreat(Double.MAX_VALUE);
    realIsTooGreat(-Double.MAX_VALUE);
    s.says("e 0: f * 2^-1074 (2^-149); else (2^52 + f) * 2^(e - 1075)", 4);
    for (long bits : new long[] {1, 0x000fffffffffffffL, 0x0010000000000000L, 0x0008000000000000L}) {
      s.refuses("real(" + bits + ")", Sentences.TOO_MUCH, () -> new Prepared("-3/4"), o -> o.x.real(bits));
    }
  }

  private void below2To256() {
    s.says("P without its sign, and Q, are below 2^256.", 4);
    realIs(0x1p255, "2^255");
    realIs(-0x1p255, "-2^255");
    realIs(0x1.fffffffffffffp255, "2^256-2^203");
    realIs(-0x1.fffffffffffffp255, "-2^256+2^203");
    realIsTooGreat(0x1p256);
    realIsTooGreat(-0x1p256);
    realIsTooGreat(0x1.0000000000001p256);
    realIs(0x1p-255, "1/2^255");
    realIs(-0x1p-255, "-1/2^255");
    realIs(0x1.8p-254, "3/2^255");
    realIs(0x1.0000000000001p-203, "2^52+1/2^255");
    realIs(0x1.fffffffffffffp-203, "2^53-1/2^255");
    realIsTooGreat(0x1p-256);
    realIsTooGreat(-0x1p-256);
    realIsTooGreat(0x1.8p-255);
    realIsTooGreat(0x1.0000000000001p-204);
    realIsTooGreat(0x1.fffffffffffffp-204);
  }

  private void numbering() {
    s.says("They are numbered from 0 on as they are made, 60 at most", 2, 3, 4, 5);
    NumberModels x = new NumberModels();
    for (int i = 0; i < 60; i += 4) {
      int at = i;
      s.is("whole, number " + i, () -> x.whole(at), at);
      s.is("fraction, number " + (i + 1), () -> x.fraction(1, at + 2), at + 1);
      s.is("real, number " + (i + 2), () -> x.real(Sentences.bits(0.5)), at + 2);
      s.is("act, number " + (i + 3), () -> x.act(0, at, at + 2), at + 3);
    }
    s.is("count()", x::count, 60);
    s.is("the last one", () -> x.word(59, 0), 2 * 56 + 1);
    s.refuses("whole, there being 60", Sentences.TOO_MUCH, () -> new Prepared().full(), o -> o.x.whole(0));
    s.refuses("fraction, there being 60", Sentences.TOO_MUCH, () -> new Prepared().full(), o -> o.x.fraction(1, 2));
    s.refuses("real, there being 60", Sentences.TOO_MUCH, () -> new Prepared().full(), o -> o.x.real(0));
    for (int act = 0; act <= 12; act++) {
      s.refusesActOfFull(Sentences.TOO_MUCH, act, "1", "1");
    }
    s.says("`int count()`: How many there are.", 7);
    for (int there = 0; there <= 60; there++) {
      NumberModels some = new NumberModels();
      for (int i = 0; i < there; i++) {
        some.whole(5);
      }
      s.is("count() of " + there, some::count, there);
    }
  }

  private void staying() {
    s.says("they stay till clear()", 5, 6);
    Prepared object = new Prepared("-2^256+1/2^255", "5/7", "1/2");
    NumberModels x = object.x;
    x.act(0, object.at(1), object.at(2));
    x.act(6, object.at(1), object.at(2));
    x.nearest(object.at(0), 0);
    x.wrap(object.at(0), 64, true);
    x.meets(object.at(0), 1);
    x.machine(0, 5, 3);
    s.isNumber("the first one", x, object.at(0), "-2^256+1/2^255");
    s.isNumber("the second one", x, object.at(1), "5/7");
    s.isNumber("the third one", x, object.at(2), "1/2");
    Prepared full = new Prepared("-2^256+1/2^255").full();
    s.isNumber("the first one of 60", full.x, full.at(0), "-2^256+1/2^255");
    s.isNumber("the last one of 60", full.x, 59, "59");
  }

  private void clear() {
    s.says("All are gone: how many there were.", 6);
    Prepared full = new Prepared("-2^256+1/2^256-3").full();
    s.is("clear() of 60", full.x::clear, 60);
    s.is("count() then", full.x::count, 0);
    s.is("clear() then", full.x::clear, 0);
    for (int i = 0; i < 60; i++) {
      int at = i;
      s.is("whole(" + i + ") then", () -> full.x.whole(at), at);
    }
    s.isNumber("where a great one was", full.x, 0, "0");
    s.isNumber("where another was", full.x, 7, "7");
    s.is("clear() of one", new Prepared("5").x::clear, 1);
    s.refuses("sign(0) after clear()", Sentences.NO_SUCH, NumberSentences::cleared, o -> o.x.sign(0));
    s.refuses("act(0, 0, 0) after clear()", Sentences.NO_SUCH, NumberSentences::cleared, o -> o.x.act(0, 0, 0));
  }

  private static Prepared cleared() {
    Prepared object = new Prepared("-5/7");
    object.x.clear();
    return object;
  }

  private void words() {
    s.says("Word k (32 bits, from 0 on, the lowest ones first) of P without its sign (k 0 .. 7), of Q (8 .. 15).", 8);
    // Words that all differ: 0xffffffff downwards for P, 0x80000000 upwards for Q.
    StringBuilder p = new StringBuilder("-4294967295");
    StringBuilder q = new StringBuilder("2147483648");
    for (int k = 1; k < 8; k++) {
      p.append("-").append(4294967295L - k).append("*2^").append(32 * k);
      q.append("+").append(2147483648L + k).append("*2^").append(32 * k);
    }
    Prepared object = new Prepared(p + "/" + q);
    int a = object.at(0);
    for (int i = 0; i < 8; i++) {
      int k = i;
      s.is("word " + k + " of P", () -> object.x.word(a, k), 4294967295L - k);
      s.is("word " + (k + 8) + " of Q", () -> object.x.word(a, k + 8), 2147483648L + k);
    }
    s.is("word 0 of 0", () -> new Prepared("0").x.word(0, 0), 0);
    s.is("word 8 of 0", () -> new Prepared("0").x.word(0, 8), 1);
    s.is("word 15 of 0", () -> new Prepared("0").x.word(0, 15), 0);
  }

  private void signs() {
    s.says("The sign of a NUMBER: -1, 0, 1.", 9);
    signOf("0", 0);
    signOf("1", 1);
    signOf("-1", -1);
    signOf(GREATEST, 1);
    signOf("-2^256+1", -1);
    signOf("1/2^256-1", 1);
    signOf("-1/2^256-1", -1);
    signOf("2^63", 1);
    signOf("-2^63", -1);
  }

  private void signOf(String number, int want) {
    Prepared object = new Prepared(number);
    s.is("sign of " + number, () -> object.x.sign(object.at(0)), want);
  }

  private void lengths() {
    s.says("How many bits P has (of P: true; of 0: 0), or Q.", 10);
    s.is("bits of 0", () -> new Prepared("0").x.bits(0, true), 0);
    s.is("bits of the Q of 0", () -> new Prepared("0").x.bits(0, false), 1);
    s.is("bits of -1", () -> new Prepared("-1").x.bits(0, true), 1);
    for (int n = 1; n <= 256; n++) {
      Prepared most = new Prepared("-2^" + n + "+1", "1/2^" + n + "-1");
      s.is("bits of -2^" + n + "+1", () -> most.x.bits(most.at(0), true), n);
      s.is("bits of its Q", () -> most.x.bits(most.at(0), false), 1);
      s.is("bits of the Q of 1/(2^" + n + "-1)", () -> most.x.bits(most.at(1), false), n);
      Prepared least = new Prepared("2^" + (n - 1), "-1/2^" + (n - 1));
      s.is("bits of 2^" + (n - 1), () -> least.x.bits(least.at(0), true), n);
      s.is("bits of the Q of -1/2^" + (n - 1), () -> least.x.bits(least.at(1), false), n);
      s.is("bits of its P", () -> least.x.bits(least.at(1), true), 1);
    }
  }

  private void wraps(String number, int bits, long signed, long plain) {
    Prepared object = new Prepared(number);
    String what = "wrap(" + number + ", " + bits;
    s.is(what + ", true)", () -> object.x.wrap(object.at(0), bits, true), signed);
    s.is(what + ", false)", () -> object.x.wrap(object.at(0), bits, false), plain);
  }

  private void wrapEdges() {
    s.says("The lowest 1 to 64 bits of CUT of a NUMBER (of one below 0 as two's complement has them), with sign or not.", 11);
    for (int n = 1; n <= 64; n++) {
      long half = 1L << n - 1;
      long all = -1L >>> 64 - n;
      String halfText = "2^" + (n - 1);
      String wholeText = "2^" + n;
      wraps("0", n, 0, 0);
      wraps(halfText + "-1", n, half - 1, half - 1);
      wraps(halfText, n, -half, half);
      wraps(wholeText + "-1", n, -1, all);
      wraps(wholeText, n, 0, 0);
      wraps("-1", n, -1, all);
      wraps("-" + halfText, n, -half, half);
      wraps("-" + halfText + "-1", n, half - 1, half - 1);
      wraps("-" + wholeText, n, 0, 0);
      wraps("2^255+" + halfText, n, -half, half);
      wraps("-2^256+1", n, n == 1 ? -1 : 1, 1);
      wraps(GREATEST, n, -1, all);
    }
  }

  private void wrapCuts() {
    s.says("CUT of x: DOWN, for x below 0 that of - x with its sign.", 11, 5);
    wraps("1/2", 64, 0, 0);
    wraps("-1/2", 64, 0, 0);
    wraps("-1/2^255", 64, 0, 0);
    wraps("2^256-1/2^255", 64, 1, 1);
    wraps("-2^256+1/2^255", 64, -1, -1);
    wraps("-3/2", 8, -1, 255);
    wraps("-2", 8, -2, 254);
    wraps("-2^9+1/2", 8, 1, 1);
    wraps("2^9-1/2", 8, -1, 255);
    wraps("2^256-1/2", 64, -1, -1);
    s.acts(6, "-1/2", "1", "0");
    s.acts(6, "-1", "1", "-1");
    s.acts(6, "-3/2", "1", "-1");
    s.acts(6, "3/2", "1", "1");
    s.acts(6, "-2^256+1/2^256-2", "1", "-1");
    s.acts(6, "-2^256+3/2^256-2", "1", "0");
  }

  private void orders(String a, String b, int want) {
    Prepared object = new Prepared(a, b);
    s.is("order of " + a + ", " + b, () -> object.x.order(object.at(0), object.at(1)), want);
    s.is("order of " + b + ", " + a, () -> object.x.order(object.at(1), object.at(0)), -want);
    s.is("order of " + a + " and itself", () -> object.x.order(object.at(0), object.at(0)), 0);
  }

  private void orderEdges() {
    s.says("Two NUMBERS: -1 the first one is less, 0 alike, 1 greater.", 12);
    orders("0", "0/3", 0);
    orders("2/4", "1/2", 0);
    orders("-1", "0", -1);
    orders("0", "1/2^256-1", -1);
    orders("-1/2^256-1", "0", -1);
    orders("-1", "1", -1);
    orders("-2^256+1", GREATEST, -1);
    orders("2^256-2", GREATEST, -1);
    orders("-2^256+1", "-2^256+2", -1);
    orders("1/2^256-1", "1/2^256-2", -1);
    orders("-1/2^256-2", "-1/2^256-1", -1);
    orders("2^256-3/2^256-2", "2^256-2/2^256-1", -1);
    orders("-2^256+2/2^256-1", "-2^256+3/2^256-2", -1);
    orders("2^256-1/2^256-2", "2^256-1/2^256-3", -1);
    orders(GREATEST, GREATEST, 0);
    orders("-1/2^256-1", "-1/2^256-1", 0);
    orders("2^32-1", "2^32", -1);
    orders("2^64-1", "2^64", -1);
  }
}
