/** Sentences of promises 16 and 17: what each kind says of zeros, of infinite ones, of NO NUMBER, of its ends. */
final class MachineSentences {
  private static final long ZERO = 0L;
  private static final long BELOW_ZERO = Sentences.SIGN;
  private static final long INFINITE = Sentences.INFINITE;
  private static final long BELOW_INFINITE = Sentences.INFINITE | Sentences.SIGN;
  private static final long NO_NUMBER = Sentences.NO_NUMBER;
  private static final long GREATEST = 0x7fefffffffffffffL;
  private static final long LEAST = 0xffefffffffffffffL;
  private static final long SMALLEST = 1L;
  private static final long BELOW_SMALLEST = 1L | Sentences.SIGN;
  private static final long SMALLEST_NORMAL = 0x0010000000000000L;

  /** The greatest ones, ones between, the smallest, zeros; each side. */
  private static final long[] FINITE = {
    GREATEST, Sentences.bits(3), SMALLEST_NORMAL, SMALLEST, ZERO, BELOW_ZERO, BELOW_SMALLEST,
    SMALLEST_NORMAL | Sentences.SIGN, Sentences.bits(-3), LEAST,
  };

  private final Sentences s;

  MachineSentences(Sentences sentences) {
    s = sentences;
  }

  void all() {
    noNumberThatComes();
    remainders();
    remainderEnds();
    wholeOnes();
    greaterAndLesser();
    signs();
    nextAbove();
    steps();
    scalings();
    scalingEnds();
    relations();
    toLongAndInt();
    lowestBits();
    toFloat();
    ofFloat();
  }

  private void makes(int kind, long a, long b, long want) {
    String what = "machine(" + kind + ", " + Long.toHexString(a) + ", " + Long.toHexString(b) + ")";
    s.is(what, () -> new NumberModels().machine(kind, a, b), want);
  }

  private void makesOf(int kind, double a, double b, double want) {
    makes(kind, Sentences.bits(a), Sentences.bits(b), Sentences.bits(want));
  }

  private void casts(int kind, long a, long want) {
    s.is("cast(" + kind + ", " + Long.toHexString(a) + ")", () -> new NumberModels().cast(kind, a), want);
  }

  private void noNumberThatComes() {
    s.says("NO NUMBER that comes is 0x7ff8000000000000 (0x7fc00000); NO NUMBERS with other bits may be told.", 16, 17);
    for (long told : Sentences.NO_NUMBERS) {
      for (int kind : new int[] {1, 2, 3, 7, 8}) {
        makes(kind, told, ZERO, NO_NUMBER);
      }
      for (long other : FINITE) {
        for (int kind : new int[] {0, 4, 5}) {
          makes(kind, told, other, NO_NUMBER);
          makes(kind, other, told, NO_NUMBER);
        }
        makes(6, told, other, NO_NUMBER);
        makes(10, told, other, 4);
        makes(10, other, told, 4);
      }
      makes(9, told, -3000, NO_NUMBER);
      makes(9, told, 3000, NO_NUMBER);
      casts(5, told, 0x7fc00000L);
    }
    for (long told : new long[] {0x7fc00000L, 0x7f800001L, 0x7fffffffL, 0xffc00000L, 0xff800001L, 0xffffffffL, -1L}) {
      casts(6, told, NO_NUMBER);
    }
  }

  private void remainders() {
    s.says("0 x % y: x less y times CUT of x / y, with the sign of x (also of 0)", 16);
    makesOf(0, 5.5, 2, 1.5);
    makesOf(0, 5.5, -2, 1.5);
    makesOf(0, -5.5, 2, -1.5);
    makesOf(0, -5.5, -2, -1.5);
    makesOf(0, 6, 2, 0.0);
    makesOf(0, 6, -2, 0.0);
    makesOf(0, -6, 2, -0.0);
    makesOf(0, -6, -2, -0.0);
    makesOf(0, 0.0, -2, 0.0);
    makesOf(0, -0.0, 2, -0.0);
    makesOf(0, 2, 2, 0.0);
    makesOf(0, Math.nextDown(2.0), 2, Math.nextDown(2.0));
    makesOf(0, Math.nextUp(2.0), 2, 0x1p-51);
    makesOf(0, -Math.nextUp(2.0), 2, -0x1p-51);
    makes(0, GREATEST, SMALLEST, ZERO);
    makes(0, LEAST, SMALLEST, BELOW_ZERO);
    makes(0, SMALLEST, GREATEST, SMALLEST);
    makes(0, BELOW_SMALLEST, LEAST, BELOW_SMALLEST);
    makes(0, 7L, 4L, 3L);
    makes(0, 7L | Sentences.SIGN, 4L, 3L | Sentences.SIGN);
    makes(0, SMALLEST_NORMAL, SMALLEST_NORMAL - 1, SMALLEST);
    // 2^2097 is 2 by 3, so that 2^1023 leaves 2 times the smallest one by 3 times that.
    makes(0, Sentences.bits(0x1p1023), 3L, 2L);
    // 2^53 is 1 by 2^53 - 1, so that 2^2097 is 2^30.
    makes(0, Sentences.bits(0x1p1023), 0x001fffffffffffffL, 1L << 30);
    makes(0, GREATEST, 0x001fffffffffffffL, ZERO);
    makes(0, GREATEST, Sentences.bits(0x1p1023), Sentences.bits(0x1.ffffffffffffep1022));
  }

  private void remainderEnds() {
    s.says("x if y is infinite and x not", 16);
    for (long a : FINITE) {
      makes(0, a, INFINITE, a);
      makes(0, a, BELOW_INFINITE, a);
    }
    s.says("NO NUMBER if y is 0, x infinite, or one is NO NUMBER.", 16);
    for (long a : FINITE) {
      makes(0, a, ZERO, NO_NUMBER);
      makes(0, a, BELOW_ZERO, NO_NUMBER);
      makes(0, INFINITE, a, NO_NUMBER);
      makes(0, BELOW_INFINITE, a, NO_NUMBER);
    }
    makes(0, INFINITE, INFINITE, NO_NUMBER);
    makes(0, INFINITE, BELOW_INFINITE, NO_NUMBER);
    makes(0, BELOW_INFINITE, INFINITE, NO_NUMBER);
    makes(0, INFINITE, NO_NUMBER, NO_NUMBER);
    makes(0, NO_NUMBER, INFINITE, NO_NUMBER);
    makes(0, NO_NUMBER, ZERO, NO_NUMBER);
  }

  /** By kinds 1, 2 and 3. */
  private void rounds(double a, double notAbove, double notBelow, double near) {
    makesOf(1, a, 0, notAbove);
    makesOf(2, a, 0, notBelow);
    makesOf(3, a, 0, near);
  }

  private void wholeOnes() {
    s.says("1 the greatest whole one not above x, 2 the least whole one not below it, 3 the nearest whole one, of two the even one", 16);
    rounds(1, 1, 1, 1);
    rounds(-1, -1, -1, -1);
    rounds(Math.nextUp(1.0), 1, 2, 1);
    rounds(-Math.nextUp(1.0), -2, -1, -1);
    rounds(1.5, 1, 2, 2);
    rounds(2.5, 2, 3, 2);
    rounds(Math.nextDown(2.5), 2, 3, 2);
    rounds(Math.nextUp(2.5), 2, 3, 3);
    rounds(Math.nextDown(1.5), 1, 2, 1);
    rounds(-1.5, -2, -1, -2);
    rounds(-2.5, -3, -2, -2);
    rounds(Math.nextUp(0.5), 0, 1, 1);
    rounds(Math.nextDown(1.0), 0, 1, 1);
    rounds(0x1p51 + 0.5, 0x1p51, 0x1p51 + 1, 0x1p51);
    rounds(0x1p51 + 1.5, 0x1p51 + 1, 0x1p51 + 2, 0x1p51 + 2);
    rounds(0x1p52 - 0.5, 0x1p52 - 1, 0x1p52, 0x1p52);
    rounds(-0x1p52 + 0.5, -0x1p52, -0x1p52 + 1, -0x1p52);
    rounds(0x1p52 + 1, 0x1p52 + 1, 0x1p52 + 1, 0x1p52 + 1);
    rounds(0x1p53 - 1, 0x1p53 - 1, 0x1p53 - 1, 0x1p53 - 1);
    rounds(Double.MAX_VALUE, Double.MAX_VALUE, Double.MAX_VALUE, Double.MAX_VALUE);
    rounds(Double.MIN_VALUE, 0.0, 1, 0.0);
    rounds(-Double.MIN_VALUE, -1, -0.0, -0.0);
    s.says("all with the sign of x when they are 0; infinite ones and NO NUMBER stay", 16);
    rounds(0.0, 0.0, 0.0, 0.0);
    rounds(-0.0, -0.0, -0.0, -0.0);
    rounds(0.5, 0.0, 1, 0.0);
    rounds(-0.5, -1, -0.0, -0.0);
    rounds(Math.nextDown(0.5), 0.0, 1, 0.0);
    rounds(-Math.nextDown(0.5), -1, -0.0, -0.0);
    rounds(-Math.nextUp(0.5), -1, -0.0, -1);
    rounds(-Math.nextDown(1.0), -1, -0.0, -1);
    rounds(Double.POSITIVE_INFINITY, Double.POSITIVE_INFINITY, Double.POSITIVE_INFINITY, Double.POSITIVE_INFINITY);
    rounds(Double.NEGATIVE_INFINITY, Double.NEGATIVE_INFINITY, Double.NEGATIVE_INFINITY, Double.NEGATIVE_INFINITY);
    rounds(Double.NaN, Double.NaN, Double.NaN, Double.NaN);
  }

  private void chooses(long lesser, long greater) {
    makes(4, lesser, greater, greater);
    makes(4, greater, lesser, greater);
    makes(5, lesser, greater, lesser);
    makes(5, greater, lesser, lesser);
  }

  private void greaterAndLesser() {
    s.says("4 the greater one of x and y, 5 the lesser one (-0 is below 0; NO NUMBER, if one is).", 16);
    long[] upwards = {
      BELOW_INFINITE, LEAST, Sentences.bits(Math.nextDown(-1.0)), Sentences.bits(-1), BELOW_SMALLEST, BELOW_ZERO,
      ZERO, SMALLEST, Sentences.bits(1), Sentences.bits(Math.nextUp(1.0)), GREATEST, INFINITE,
    };
    for (int i = 0; i < upwards.length; i++) {
      for (int j = i; j < upwards.length; j++) {
        chooses(upwards[i], upwards[j]);
      }
      chooses(upwards[i], upwards[i]);
      for (int kind = 4; kind <= 5; kind++) {
        makes(kind, upwards[i], NO_NUMBER, NO_NUMBER);
        makes(kind, NO_NUMBER, upwards[i], NO_NUMBER);
      }
    }
  }

  private void signs() {
    s.says("6 x with the sign of y (as its bits have it).", 16);
    long[] plain = {ZERO, SMALLEST, Sentences.bits(3), GREATEST, INFINITE};
    long[] above = {ZERO, SMALLEST, Sentences.bits(5), INFINITE, NO_NUMBER, 0x7fffffffffffffffL};
    for (long size : plain) {
      for (long y : above) {
        makes(6, size, y, size);
        makes(6, size | Sentences.SIGN, y, size);
        makes(6, size, y | Sentences.SIGN, size | Sentences.SIGN);
        makes(6, size | Sentences.SIGN, y | Sentences.SIGN, size | Sentences.SIGN);
      }
    }
  }

  private void nextAbove() {
    s.says("7 the least one above x (above -0 and 0 the least above 0; infinite above 0 and NO NUMBER stay).", 16);
    makes(7, ZERO, ZERO, SMALLEST);
    makes(7, BELOW_ZERO, ZERO, SMALLEST);
    makes(7, SMALLEST, ZERO, 2L);
    makes(7, BELOW_SMALLEST, ZERO, BELOW_ZERO);
    makes(7, 2L | Sentences.SIGN, ZERO, BELOW_SMALLEST);
    makes(7, SMALLEST_NORMAL - 1, ZERO, SMALLEST_NORMAL);
    makes(7, SMALLEST_NORMAL | Sentences.SIGN, ZERO, SMALLEST_NORMAL - 1 | Sentences.SIGN);
    makesOf(7, 1, 0, 0x1.0000000000001p0);
    makesOf(7, -1, 0, -0x1.fffffffffffffp-1);
    makes(7, GREATEST, ZERO, INFINITE);
    makes(7, INFINITE, ZERO, INFINITE);
    makes(7, BELOW_INFINITE, ZERO, LEAST);
    makes(7, LEAST, ZERO, 0xffeffffffffffffeL);
    makes(7, NO_NUMBER, ZERO, NO_NUMBER);
  }

  private void steps() {
    s.says("8 the step of f at x, without sign (of infinite ones: infinite).", 16);
    for (long sign : new long[] {0, Sentences.SIGN}) {
      makes(8, ZERO | sign, ZERO, SMALLEST);
      makes(8, SMALLEST | sign, ZERO, SMALLEST);
      makes(8, SMALLEST_NORMAL - 1 | sign, ZERO, SMALLEST);
      makes(8, SMALLEST_NORMAL | sign, ZERO, SMALLEST);
      makes(8, 0x001fffffffffffffL | sign, ZERO, SMALLEST);
      makes(8, 0x0020000000000000L | sign, ZERO, 2L);
      makes(8, Sentences.bits(0x1p-970) | sign, ZERO, SMALLEST_NORMAL);
      makes(8, Sentences.bits(Math.nextDown(0x1p-970)) | sign, ZERO, 0x0008000000000000L);
      makes(8, Sentences.bits(1) | sign, ZERO, Sentences.bits(0x1p-52));
      makes(8, Sentences.bits(Math.nextDown(1.0)) | sign, ZERO, Sentences.bits(0x1p-53));
      makes(8, GREATEST | sign, ZERO, Sentences.bits(0x1p971));
      makes(8, INFINITE | sign, ZERO, INFINITE);
    }
  }

  private void scalings() {
    s.says("9 x times 2 to the n, nearest by 0 (infinite ones and NO NUMBER stay; 0 keeps its sign)", 16);
    for (long n : new long[] {0, 1, -1, 3000, -3000, Long.MAX_VALUE, Long.MIN_VALUE}) {
      for (long stays : new long[] {ZERO, BELOW_ZERO, INFINITE, BELOW_INFINITE, NO_NUMBER}) {
        makes(9, stays, n, stays);
      }
    }
    for (long a : FINITE) {
      makes(9, a, 0, a);
    }
    makes(9, GREATEST, 1, INFINITE);
    makes(9, LEAST, 1, BELOW_INFINITE);
    makes(9, Sentences.bits(1), 1023, Sentences.bits(0x1p1023));
    for (long n = 1024; n <= 3000; n++) {
      makes(9, Sentences.bits(1), n, INFINITE);
      makes(9, Sentences.bits(-1), n, BELOW_INFINITE);
    }
    for (long n = -1075; n >= -3000; n--) {
      makes(9, Sentences.bits(1), n, ZERO);
      makes(9, Sentences.bits(-1), n, BELOW_ZERO);
    }
    makes(9, SMALLEST, 2097, Sentences.bits(0x1p1023));
    makes(9, SMALLEST, 2098, INFINITE);
    makes(9, SMALLEST_NORMAL - 1, 1074, Sentences.bits(0x1p52 - 1));
    makes(9, SMALLEST_NORMAL, 1074, Sentences.bits(0x1p52));
    makes(9, Sentences.bits(1), -1074, SMALLEST);
    makes(9, Sentences.bits(Math.nextUp(1.0)), -1075, SMALLEST);
    makes(9, Sentences.bits(-Math.nextUp(1.0)), -1075, BELOW_SMALLEST);
    makes(9, Sentences.bits(Math.nextDown(1.0)), -1074, SMALLEST);
    makes(9, Sentences.bits(1.5), -1074, 2L);
    makes(9, Sentences.bits(2.5), -1074, 2L);
    makes(9, SMALLEST, -1, ZERO);
    makes(9, BELOW_SMALLEST, -1, BELOW_ZERO);
    makes(9, 3L, -1, 2L);
    makes(9, 0x001fffffffffffffL, -1, SMALLEST_NORMAL);
    makes(9, SMALLEST_NORMAL + 1, -1, 0x0008000000000000L);
    makes(9, GREATEST, -2098, SMALLEST);
    makes(9, LEAST, -2098, BELOW_SMALLEST);
    makes(9, GREATEST, -2099, ZERO);
    makes(9, LEAST, -2099, BELOW_ZERO);
  }

  private void scalingEnds() {
    s.says("n being y itself, a plain long, but at least -3000 and at most 3000.", 16);
    for (long n : new long[] {2999, 3000, 3001, 1L << 31, 1L << 32, (1L << 32) + 1, 1L << 62, Long.MAX_VALUE}) {
      makes(9, SMALLEST, n, INFINITE);
      makes(9, BELOW_SMALLEST, n, BELOW_INFINITE);
      makes(9, GREATEST, -n, ZERO);
      makes(9, LEAST, -n, BELOW_ZERO);
    }
    makes(9, GREATEST, Long.MIN_VALUE, ZERO);
    makes(9, LEAST, Long.MIN_VALUE, BELOW_ZERO);
    // These would be small, had y been taken for the bits of a double.
    makes(9, Sentences.bits(3), Sentences.bits(1), INFINITE);
    makes(9, Sentences.bits(3), Sentences.bits(-1), ZERO);
  }

  private void relations() {
    s.says("10 no double: 1 when x is below y, 2 alike (0 and -0, too), 3 above, 4 if one is NO NUMBER.", 16);
    long[] upwards = {BELOW_INFINITE, LEAST, Sentences.bits(-1), BELOW_SMALLEST, ZERO, SMALLEST, Sentences.bits(1), GREATEST, INFINITE};
    for (int i = 0; i < upwards.length; i++) {
      makes(10, upwards[i], upwards[i], 2);
      makes(10, upwards[i], NO_NUMBER, 4);
      makes(10, NO_NUMBER, upwards[i], 4);
      for (int j = i + 1; j < upwards.length; j++) {
        makes(10, upwards[i], upwards[j], 1);
        makes(10, upwards[j], upwards[i], 3);
      }
    }
    makes(10, ZERO, BELOW_ZERO, 2);
    makes(10, BELOW_ZERO, ZERO, 2);
    makes(10, BELOW_ZERO, BELOW_ZERO, 2);
    makes(10, BELOW_ZERO, SMALLEST, 1);
    makes(10, BELOW_ZERO, BELOW_SMALLEST, 3);
    makes(10, BELOW_SMALLEST, BELOW_ZERO, 1);
    makes(10, NO_NUMBER, NO_NUMBER, 4);
  }

  private void castsOf(int kind, double a, long want) {
    casts(kind, Sentences.bits(a), want);
  }

  private void toLongAndInt() {
    s.says("0 long, 1 int: CUT of x; of NO NUMBER 0; beyond the ends the nearer end", 17);
    for (int kind = 0; kind <= 4; kind++) {
      for (double none : new double[] {0.0, -0.0, Double.MIN_VALUE, -Double.MIN_VALUE, 0.5, -0.5, -Math.nextDown(1.0)}) {
        castsOf(kind, none, 0);
      }
      for (long told : Sentences.NO_NUMBERS) {
        casts(kind, told, 0);
      }
      castsOf(kind, 1.0, 1);
      castsOf(kind, Math.nextDown(2.0), 1);
    }
    castsOf(0, -1.0, -1);
    castsOf(0, -Math.nextDown(2.0), -1);
    castsOf(0, 0x1p52 - 0.5, (1L << 52) - 1);
    castsOf(0, 0x1p53 + 2, (1L << 53) + 2);
    castsOf(0, Math.nextDown(0x1p63), Long.MAX_VALUE - 1023);
    castsOf(0, 0x1p63, Long.MAX_VALUE);
    castsOf(0, Math.nextUp(0x1p63), Long.MAX_VALUE);
    castsOf(0, Double.MAX_VALUE, Long.MAX_VALUE);
    casts(0, INFINITE, Long.MAX_VALUE);
    castsOf(0, -Math.nextDown(0x1p63), Long.MIN_VALUE + 1024);
    castsOf(0, -0x1p63, Long.MIN_VALUE);
    castsOf(0, -Math.nextUp(0x1p63), Long.MIN_VALUE);
    casts(0, BELOW_INFINITE, Long.MIN_VALUE);
    castsOf(1, -1.0, -1);
    castsOf(1, 0x1p31 - 1, Integer.MAX_VALUE);
    castsOf(1, 0x1p31 - 2, Integer.MAX_VALUE - 1);
    castsOf(1, Math.nextDown(0x1p31), Integer.MAX_VALUE);
    castsOf(1, 0x1p31, Integer.MAX_VALUE);
    castsOf(1, 0x1p32, Integer.MAX_VALUE);
    castsOf(1, 0x1p63, Integer.MAX_VALUE);
    casts(1, INFINITE, Integer.MAX_VALUE);
    castsOf(1, -0x1p31 + 1, Integer.MIN_VALUE + 1);
    castsOf(1, -0x1p31, Integer.MIN_VALUE);
    castsOf(1, -0x1p31 - 0.5, Integer.MIN_VALUE);
    castsOf(1, -0x1p31 - 1, Integer.MIN_VALUE);
    castsOf(1, -0x1p32, Integer.MIN_VALUE);
    casts(1, BELOW_INFINITE, Integer.MIN_VALUE);
  }

  private void lowestBits() {
    s.says("2 short, 3 byte, 4 char: the lowest bits of the int, with sign but for char", 17);
    castsOf(2, 32767.9, 32767);
    castsOf(2, 32768, -32768);
    castsOf(2, 65535, -1);
    castsOf(2, 65536, 0);
    castsOf(2, -32768.9, -32768);
    castsOf(2, -32769, 32767);
    castsOf(3, 127.9, 127);
    castsOf(3, 128, -128);
    castsOf(3, 255, -1);
    castsOf(3, 256, 0);
    castsOf(3, -128.9, -128);
    castsOf(3, -129, 127);
    castsOf(4, 65535.9, 65535);
    castsOf(4, 65536, 0);
    castsOf(4, -1, 65535);
    castsOf(4, -65536, 0);
    castsOf(4, 32768, 32768);
    // Of the int, so of its end: the bits of the end that is nearer.
    for (double beyond : new double[] {0x1p31, 0x1p31 - 1, 0x1p32, 0x1p32 + 5, 0x1p63, Double.POSITIVE_INFINITY}) {
      castsOf(2, beyond, -1);
      castsOf(3, beyond, -1);
      castsOf(4, beyond, 65535);
    }
    for (double beyond : new double[] {-0x1p31, -0x1p31 - 1, -0x1p32 - 5, -0x1p63, Double.NEGATIVE_INFINITY}) {
      for (int kind = 2; kind <= 4; kind++) {
        castsOf(kind, beyond, 0);
      }
    }
    castsOf(2, -0x1p31 + 1, 1);
    castsOf(3, -0x1p31 + 1, 1);
    castsOf(4, -0x1p31 + 1, 1);
  }

  private void castsToFloat(double a, float want) {
    castsOf(5, a, Sentences.floatBits(want));
    castsOf(5, -a, Sentences.floatBits(-want));
  }

  private void toFloat() {
    s.says("5 float: its bits (as an int), nearest by 0", 17);
    float most = Float.MAX_VALUE;
    float least = Float.MIN_VALUE;
    float infinite = Float.POSITIVE_INFINITY;
    castsToFloat(0.0, 0f);
    castsToFloat(1, 1f);
    castsToFloat(0x1.000001p0, 1f);
    castsToFloat(Math.nextUp(0x1.000001p0), 0x1.000002p0f);
    castsToFloat(0x1.000003p0, 0x1.000004p0f);
    castsToFloat(Math.nextDown(0x1.000003p0), 0x1.000002p0f);
    castsToFloat(0x1.ffffffp0, 2f);
    castsToFloat(most, most);
    castsToFloat(Math.nextUp((double) most), most);
    castsToFloat(Math.nextDown(0x1.ffffffp127), most);
    castsToFloat(0x1.ffffffp127, infinite);
    castsToFloat(0x1p128, infinite);
    castsToFloat(Double.MAX_VALUE, infinite);
    castsToFloat(Double.POSITIVE_INFINITY, infinite);
    castsToFloat(least, least);
    castsToFloat(0x1p-150, 0f);
    castsToFloat(Math.nextUp(0x1p-150), least);
    castsToFloat(Math.nextDown(0x1p-150), 0f);
    castsToFloat(0x1.8p-149, 2 * least);
    castsToFloat(Float.MIN_NORMAL, Float.MIN_NORMAL);
    castsToFloat(0x1.fffffep-127, Float.MIN_NORMAL);
    castsToFloat(Math.nextDown(0x1.fffffep-127), Math.nextDown(Float.MIN_NORMAL));
    castsToFloat(Double.MIN_VALUE, 0f);
    castsToFloat(Double.MIN_NORMAL, 0f);
    casts(5, BELOW_ZERO, Integer.MIN_VALUE);
    castsOf(5, -1.0, -0x40800000L);
  }

  private void castsOfFloat(long a, double want) {
    casts(6, a, Sentences.bits(want));
    casts(6, a | 0x80000000L, Sentences.bits(-want));
    casts(6, a | 0xffffffff00000000L, Sentences.bits(want));
    casts(6, a | 0x7ff8000080000000L, Sentences.bits(-want));
  }

  private void ofFloat() {
    s.says("6 of a float (x being its bits, lowest 32): the bits of the double that it is.", 17);
    castsOfFloat(0, 0.0);
    castsOfFloat(1, 0x1p-149);
    castsOfFloat(3, 0x1.8p-148);
    castsOfFloat(0x007fffffL, 0x1.fffffcp-127);
    castsOfFloat(0x00800000L, 0x1p-126);
    castsOfFloat(0x00800001L, 0x1.000002p-126);
    castsOfFloat(0x3f800000L, 1);
    castsOfFloat(0x3dcccccdL, 0.1f);
    castsOfFloat(0x7f7fffffL, 0x1.fffffep127);
    s.says("e all 1s: infinite, if f is 0, else NO NUMBER; e 0: f * 2^-1074 (2^-149)", 16, 17);
    castsOfFloat(0x7f800000L, Double.POSITIVE_INFINITY);
    casts(6, 0x7f800001L, NO_NUMBER);
    casts(6, 0xff800001L, NO_NUMBER);
    makes(10, GREATEST, INFINITE, 1);
    makes(10, INFINITE, INFINITE + 1, 4);
    makes(10, BELOW_INFINITE, BELOW_INFINITE + 1, 4);
    makes(9, SMALLEST, 1074, Sentences.bits(1));
    makes(9, SMALLEST_NORMAL - 1, 1, 0x001ffffffffffffeL);
    makes(9, 0x0020000000000000L, -2, 0x0008000000000000L);
  }
}
