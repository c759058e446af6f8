/** Each promise by written answers: ordinary inputs, the edges that the document names, wrong inputs. */
public final class PromisesTest {
  private static final Class<IndexOutOfBoundsException> NO_SUCH = IndexOutOfBoundsException.class;
  private static final Class<IllegalArgumentException> NOT_AS_TOLD = IllegalArgumentException.class;
  private static final Class<ArithmeticException> BY_ZERO = ArithmeticException.class;
  private static final Class<IllegalStateException> TOO_MUCH = IllegalStateException.class;

  private static final long NO_NUMBER = 0x7ff8000000000000L;
  private static final long OTHER_NO_NUMBER = 0xfff0000000000123L;
  private static final long INFINITE = 0x7ff0000000000000L;
  private static final long SIGN = 0x8000000000000000L;

  private final Due due = new Due();

  public static void main(String[] args) {
    PromisesTest test = new PromisesTest();
    test.newObject();
    test.whole();
    test.fraction();
    test.real();
    test.fourActs();
    test.divisions();
    test.commonDivisor();
    test.powers();
    test.doublings();
    test.lesserAndGreater();
    test.wrongActs();
    test.tooGreat();
    test.clearAndCount();
    test.word();
    test.signAndBits();
    test.wrap();
    test.order();
    test.meets();
    test.nearest();
    test.single();
    test.remainders();
    test.roundings();
    test.otherKinds();
    test.scalings();
    test.casts();
    test.due.end();
  }

  private static long bits(double x) {
    return Double.doubleToLongBits(x);
  }

  /** A new object with one number, 0. */
  private static NumberModels with(long p, long q) {
    NumberModels x = new NumberModels();
    x.fraction(p, q);
    return x;
  }

  /** A new object with two numbers, 0 and 1. */
  private static NumberModels with(long p, long q, long r, long s) {
    NumberModels x = with(p, q);
    x.fraction(r, s);
    return x;
  }

  private static NumberModels full() {
    NumberModels x = new NumberModels();
    for (int i = 0; i < 60; i++) {
      x.whole(i);
    }
    return x;
  }

  /** A new object with 0: 2^255, 1: 1, 2: 2^255 - 1, 3: 2^256 - 1. */
  private static NumberModels great() {
    NumberModels x = new NumberModels();
    x.real(bits(0x1p255));
    x.whole(1);
    x.act(1, 0, 1);
    x.act(0, 2, 0);
    return x;
  }

  /** Whether a number is p / q, both below 2^31. */
  private void isRatio(String what, NumberModels x, int a, long p, long q) {
    due.is(what + ": sign", () -> x.sign(a), Long.signum(p));
    due.is(what + ": word 0", () -> x.word(a, 0), Math.abs(p));
    due.is(what + ": word 8", () -> x.word(a, 8), q);
    due.holds(what + ": no higher words", x.bits(a, true) < 32 && x.bits(a, false) < 32);
  }

  private void acts(int act, long p, long q, long r, long s, long wantP, long wantQ) {
    NumberModels x = with(p, q, r, s);
    String what = "act(" + act + ") of " + p + "/" + q + ", " + r + "/" + s;
    due.is(what, () -> x.act(act, 0, 1), 2);
    isRatio(what, x, 2, wantP, wantQ);
  }

  private void newObject() {
    NumberModels x = new NumberModels();
    due.is("count() of a new one", x::count, 0);
    due.fails("sign(0) of a new one", NO_SUCH, () -> x.sign(0));
    due.is("clear() of a new one", x::clear, 0);
    NumberModels other = with(1, 1);
    due.is("count() beside another one", x::count, 0);
    due.is("count() of that", other::count, 1);
  }

  private void whole() {
    NumberModels x = new NumberModels();
    due.is("whole(0)", () -> x.whole(0), 0);
    due.is("whole(-5)", () -> x.whole(-5), 1);
    due.is("whole(least)", () -> x.whole(Long.MIN_VALUE), 2);
    due.is("whole(greatest)", () -> x.whole(Long.MAX_VALUE), 3);
    isRatio("whole(0)", x, 0, 0, 1);
    isRatio("whole(-5)", x, 1, -5, 1);
    due.is("sign of the least", () -> x.sign(2), -1);
    due.is("word 0 of the least", () -> x.word(2, 0), 0);
    due.is("word 1 of the least", () -> x.word(2, 1), 0x80000000L);
    due.is("word 2 of the least", () -> x.word(2, 2), 0);
    due.is("bits of the greatest", () -> x.bits(3, true), 63);
    NumberModels full = full();
    due.fails("whole(1), there being 60", TOO_MUCH, () -> full.whole(1));
    due.is("count() after that", full::count, 60);
    due.is("the last one", () -> full.word(59, 0), 59);
  }

  private void fraction() {
    NumberModels x = new NumberModels();
    due.is("fraction(6, -4)", () -> x.fraction(6, -4), 0);
    isRatio("fraction(6, -4)", x, 0, -3, 2);
    due.is("fraction(-6, -4)", () -> x.fraction(-6, -4), 1);
    isRatio("fraction(-6, -4)", x, 1, 3, 2);
    due.is("fraction(0, -7)", () -> x.fraction(0, -7), 2);
    isRatio("fraction(0, -7)", x, 2, 0, 1);
    due.is("fraction(least, least)", () -> x.fraction(Long.MIN_VALUE, Long.MIN_VALUE), 3);
    isRatio("fraction(least, least)", x, 3, 1, 1);
    due.is("fraction(3, least)", () -> x.fraction(3, Long.MIN_VALUE), 4);
    due.is("its sign", () -> x.sign(4), -1);
    due.is("bits of its Q", () -> x.bits(4, false), 64);
    due.is("fraction(least, 6)", () -> x.fraction(Long.MIN_VALUE, 6), 5);
    due.is("its P", () -> x.word(5, 1), 0x40000000L);
    due.is("its Q", () -> x.word(5, 8), 3);
    due.fails("fraction(1, 0)", BY_ZERO, () -> x.fraction(1, 0));
    due.fails("fraction(0, 0)", BY_ZERO, () -> x.fraction(0, 0));
    due.is("count() after that", x::count, 6);
    NumberModels full = full();
    due.fails("fraction(1, 0), there being 60", BY_ZERO, () -> full.fraction(1, 0));
    due.fails("fraction(1, 2), there being 60", TOO_MUCH, () -> full.fraction(1, 2));
  }

  private void real() {
    NumberModels x = new NumberModels();
    due.is("real(-0.375)", () -> x.real(bits(-0.375)), 0);
    isRatio("real(-0.375)", x, 0, -3, 8);
    due.is("real(-0)", () -> x.real(SIGN), 1);
    isRatio("real(-0)", x, 1, 0, 1);
    due.is("real(48)", () -> x.real(bits(48)), 2);
    isRatio("real(48)", x, 2, 48, 1);
    due.is("real(2^-255)", () -> x.real(bits(0x1p-255)), 3);
    due.is("bits of its Q", () -> x.bits(3, false), 256);
    due.is("real(2^-253 * 1.25)", () -> x.real(bits(0x1.4p-253)), 4);
    due.is("its P", () -> x.word(4, 0), 5);
    due.fails("real(2^-256)", TOO_MUCH, () -> x.real(bits(0x1p-256)));
    due.fails("real(2^-254 * 1.25)", TOO_MUCH, () -> x.real(bits(0x1.4p-254)));
    due.is("real(2^255 * 1.5)", () -> x.real(bits(0x1.8p255)), 5);
    due.is("its highest word", () -> x.word(5, 7), 0xc0000000L);
    due.fails("real(2^256)", TOO_MUCH, () -> x.real(bits(0x1p256)));
    due.fails("real(the greatest)", TOO_MUCH, () -> x.real(bits(Double.MAX_VALUE)));
    due.fails("real(the least above 0)", TOO_MUCH, () -> x.real(1));
    due.fails("real(infinite)", BY_ZERO, () -> x.real(INFINITE));
    due.fails("real(infinite below 0)", BY_ZERO, () -> x.real(INFINITE | SIGN));
    due.fails("real(NO NUMBER)", BY_ZERO, () -> x.real(NO_NUMBER));
    due.fails("real(NO NUMBER)", BY_ZERO, () -> x.real(OTHER_NO_NUMBER));
    due.is("count() after that", x::count, 6);
    NumberModels full = full();
    due.fails("real(infinite), there being 60", BY_ZERO, () -> full.real(INFINITE));
    due.fails("real(1), there being 60", TOO_MUCH, () -> full.real(bits(1)));
  }

  private void fourActs() {
    acts(0, 1, 6, 1, 10, 4, 15);
    acts(0, 1, 6, -1, 6, 0, 1);
    acts(0, -1, 2, 1, 3, -1, 6);
    acts(0, 0, 1, -1, 3, -1, 3);
    acts(0, 5, 3, 0, 1, 5, 3);
    acts(1, 1, 6, 1, 10, 1, 15);
    acts(1, 1, 10, 1, 6, -1, 15);
    acts(1, 0, 1, 1, 3, -1, 3);
    acts(1, -1, 2, 1, 2, -1, 1);
    acts(2, -4, 9, 3, 8, -1, 6);
    acts(2, -4, 9, -3, 8, 1, 6);
    acts(2, 0, 1, -3, 8, 0, 1);
    acts(3, -4, 9, -8, 3, 1, 6);
    acts(3, 4, 9, -8, 3, -1, 6);
    acts(3, 0, 1, -8, 3, 0, 1);
  }

  private void divisions() {
    acts(4, 7, 1, 2, 1, 3, 1);
    acts(4, 7, 1, -2, 1, -4, 1);
    acts(4, -7, 1, 2, 1, -4, 1);
    acts(4, -7, 1, -2, 1, 3, 1);
    acts(4, -6, 1, 2, 1, -3, 1);
    acts(4, -1, 3, 5, 7, -1, 1);
    acts(4, 1, 3, 5, 7, 0, 1);
    acts(5, 7, 1, 2, 1, 1, 1);
    acts(5, 7, 1, -2, 1, -1, 1);
    acts(5, -7, 1, 2, 1, 1, 1);
    acts(5, -7, 1, -2, 1, -1, 1);
    acts(5, -6, 1, 2, 1, 0, 1);
    acts(5, -1, 3, 5, 7, 8, 21);
    acts(5, 7, 2, 2, 3, 1, 6);
    acts(6, 7, 1, 2, 1, 3, 1);
    acts(6, 7, 1, -2, 1, -3, 1);
    acts(6, -7, 1, 2, 1, -3, 1);
    acts(6, -7, 1, -2, 1, 3, 1);
    acts(6, -1, 3, 5, 7, 0, 1);
    acts(7, 7, 1, 2, 1, 1, 1);
    acts(7, 7, 1, -2, 1, 1, 1);
    acts(7, -7, 1, 2, 1, -1, 1);
    acts(7, -7, 1, -2, 1, -1, 1);
    acts(7, -1, 3, 5, 7, -1, 3);
    acts(7, -7, 2, 2, 3, -1, 6);
    for (int act = 3; act <= 7; act++) {
      NumberModels x = with(5, 3, 0, 1);
      int divides = act;
      due.fails("act(" + act + ") by 0", BY_ZERO, () -> x.act(divides, 0, 1));
      due.fails("act(" + act + ") of 0 by 0", BY_ZERO, () -> x.act(divides, 1, 1));
      due.is("count() after that", x::count, 2);
    }
  }

  private void commonDivisor() {
    acts(8, 12, 1, -18, 1, 6, 1);
    acts(8, -12, 1, -18, 1, 6, 1);
    acts(8, 0, 1, 0, 1, 0, 1);
    acts(8, 0, 1, -5, 1, 5, 1);
    acts(8, -5, 1, 0, 1, 5, 1);
    acts(8, 35, 1, 64, 1, 1, 1);
    due.fails("act(8) of 1/2 and 2", NOT_AS_TOLD, () -> with(1, 2, 2, 1).act(8, 0, 1));
    due.fails("act(8) of 2 and 1/2", NOT_AS_TOLD, () -> with(2, 1, 1, 2).act(8, 0, 1));
  }

  private void powers() {
    acts(9, -2, 3, 3, 1, -8, 27);
    acts(9, -2, 3, 4, 1, 16, 81);
    acts(9, -2, 3, -3, 1, -27, 8);
    acts(9, 2, 3, -2, 1, 9, 4);
    acts(9, 7, 3, 0, 1, 1, 1);
    acts(9, -7, 3, 0, 1, 1, 1);
    acts(9, 0, 1, 0, 1, 1, 1);
    acts(9, 0, 1, 300, 1, 0, 1);
    acts(9, -1, 1, 299, 1, -1, 1);
    acts(9, -1, 1, -300, 1, 1, 1);
    acts(9, 1, 1, 300, 1, 1, 1);
    due.fails("0 to the -1", BY_ZERO, () -> with(0, 1, -1, 1).act(9, 0, 1));
    due.fails("0 to the -300", BY_ZERO, () -> with(0, 1, -300, 1).act(9, 0, 1));
    due.fails("to the 301", NOT_AS_TOLD, () -> with(1, 1, 301, 1).act(9, 0, 1));
    due.fails("to the -301", NOT_AS_TOLD, () -> with(0, 1, -301, 1).act(9, 0, 1));
    due.fails("to the 2^32", NOT_AS_TOLD, () -> with(1, 1, 1L << 32, 1).act(9, 0, 1));
    due.fails("to the 1/2", NOT_AS_TOLD, () -> with(4, 1, 1, 2).act(9, 0, 1));
    NumberModels x = with(2, 1, 255, 1);
    due.is("2 to the 255", () -> x.act(9, 0, 1), 2);
    due.is("its highest word", () -> x.word(2, 7), 0x80000000L);
    due.fails("2 to the 256", TOO_MUCH, () -> with(2, 1, 256, 1).act(9, 0, 1));
    due.fails("1/2 to the 300", TOO_MUCH, () -> with(1, 2, 300, 1).act(9, 0, 1));
    due.fails("2 to the -300", TOO_MUCH, () -> with(2, 1, -300, 1).act(9, 0, 1));
  }

  private void doublings() {
    acts(10, 3, 8, 2, 1, 3, 2);
    acts(10, 3, 8, 5, 1, 12, 1);
    acts(10, -12, 5, -1, 1, -6, 5);
    acts(10, -12, 5, -4, 1, -3, 20);
    acts(10, 7, 5, 0, 1, 7, 5);
    acts(10, 0, 1, 600, 1, 0, 1);
    acts(10, 0, 1, -600, 1, 0, 1);
    due.fails("times 2 to the 601", NOT_AS_TOLD, () -> with(0, 1, 601, 1).act(10, 0, 1));
    due.fails("times 2 to the -601", NOT_AS_TOLD, () -> with(0, 1, -601, 1).act(10, 0, 1));
    due.fails("times 2 to the 1/2", NOT_AS_TOLD, () -> with(0, 1, 1, 2).act(10, 0, 1));
    due.fails("times 2 to the 600", TOO_MUCH, () -> with(1, 1, 600, 1).act(10, 0, 1));
    due.fails("times 2 to the -600", TOO_MUCH, () -> with(1, 1, -600, 1).act(10, 0, 1));
    due.fails("1 times 2 to the 256", TOO_MUCH, () -> with(1, 1, 256, 1).act(10, 0, 1));
    due.fails("3 times 2 to the 255", TOO_MUCH, () -> with(3, 1, 255, 1).act(10, 0, 1));
    NumberModels x = with(1, 1, 255, 1);
    due.is("1 times 2 to the 255", () -> x.act(10, 0, 1), 2);
    due.is("-510", () -> x.whole(-510), 3);
    due.is("2^255 to 2^-255", () -> x.act(10, 2, 3), 4);
    due.is("its P", () -> x.bits(4, true), 1);
    due.is("its Q", () -> x.bits(4, false), 256);
  }

  private void lesserAndGreater() {
    acts(11, 1, 3, 1, 2, 1, 3);
    acts(11, 1, 3, -1, 2, -1, 2);
    acts(12, 1, 3, 1, 2, 1, 2);
    acts(12, -1, 3, -1, 2, -1, 3);
    acts(12, 5, 7, 5, 7, 5, 7);
    acts(11, 0, 1, -5, 7, -5, 7);
  }

  private void wrongActs() {
    NumberModels x = with(1, 2, 0, 1);
    due.fails("act(0, 2, 0)", NO_SUCH, () -> x.act(0, 2, 0));
    due.fails("act(0, 0, 2)", NO_SUCH, () -> x.act(0, 0, 2));
    due.fails("act(0, -1, 0)", NO_SUCH, () -> x.act(0, -1, 0));
    due.fails("act(0, 0, least)", NO_SUCH, () -> x.act(0, 0, Integer.MIN_VALUE));
    due.fails("act(99, 0, 2)", NO_SUCH, () -> x.act(99, 0, 2));
    due.fails("act(13, 0, 1)", NOT_AS_TOLD, () -> x.act(13, 0, 1));
    due.fails("act(-1, 0, 1)", NOT_AS_TOLD, () -> x.act(-1, 0, 1));
    due.is("count() after that", x::count, 2);
    NumberModels full = full();
    due.fails("act(0, 60, 0), there being 60", NO_SUCH, () -> full.act(0, 60, 0));
    due.fails("act(13, 0, 0), there being 60", NOT_AS_TOLD, () -> full.act(13, 0, 0));
    due.fails("act(3, 1, 0), there being 60", BY_ZERO, () -> full.act(3, 1, 0));
    due.fails("act(11, 1, 0), there being 60", TOO_MUCH, () -> full.act(11, 1, 0));
  }

  private void tooGreat() {
    NumberModels x = great();
    due.is("bits of 2^256 - 1", () -> x.bits(3, true), 256);
    due.fails("2^256 - 1 + 1", TOO_MUCH, () -> x.act(0, 3, 1));
    due.fails("2^255 + 2^255", TOO_MUCH, () -> x.act(0, 0, 0));
    due.is("1 / (2^256 - 1)", () -> x.act(3, 1, 3), 4);
    due.fails("1 / (2^256 - 1) + 2^255", TOO_MUCH, () -> x.act(0, 4, 0));
    due.fails("(2^256 - 1) / (1 / (2^256 - 1))", TOO_MUCH, () -> x.act(3, 3, 4));
    due.fails("DOWN of that", TOO_MUCH, () -> x.act(4, 3, 4));
    due.fails("CUT of that", TOO_MUCH, () -> x.act(6, 3, 4));
    due.is("what DOWN of it leaves", () -> x.act(5, 3, 4), 5);
    due.is("what CUT of it leaves", () -> x.act(7, 3, 4), 6);
    due.is("a product, great in between", () -> x.act(2, 3, 4), 7);
    due.is("count() after that", x::count, 8);
    isRatio("what DOWN of it leaves", x, 5, 0, 1);
    isRatio("what CUT of it leaves", x, 6, 0, 1);
    isRatio("a product, great in between", x, 7, 1, 1);
    downBeyondCut();
  }

  /** a / b lies between - 2^256 and 1 - 2^256: CUT has 256 bits, DOWN is too great. */
  private void downBeyondCut() {
    NumberModels x = great();
    x.act(1, 3, 1);
    x.act(1, 4, 1);
    x.act(3, 5, 4);
    x.whole(-1);
    x.act(2, 6, 7);
    due.fails("DOWN of (2^256 - 2) / b", TOO_MUCH, () -> x.act(4, 4, 8));
    due.is("CUT of (2^256 - 2) / b", () -> x.act(6, 4, 8), 9);
    due.is("its sign", () -> x.sign(9), -1);
    due.is("its bits", () -> x.bits(9, true), 256);
    due.is("its lowest word", () -> x.word(9, 0), 0xffffffffL);
  }

  private void clearAndCount() {
    NumberModels x = with(1, 2, 3, 4);
    due.is("count()", x::count, 2);
    due.is("clear()", x::clear, 2);
    due.is("count() after clear()", x::count, 0);
    due.fails("sign(0) after clear()", NO_SUCH, () -> x.sign(0));
    due.is("clear() twice", x::clear, 0);
    due.is("whole(-9) after clear()", () -> x.whole(-9), 0);
    isRatio("whole(-9) after clear()", x, 0, -9, 1);
    NumberModels full = full();
    due.is("count() of 60", full::count, 60);
    due.is("clear() of 60", full::clear, 60);
    due.is("whole(1) after that", () -> full.whole(1), 0);
  }

  private void word() {
    NumberModels x = new NumberModels();
    x.fraction(-0x123456789abcdefL, 0x100000000L);
    due.is("word(0, 0)", () -> x.word(0, 0), 0x89abcdefL);
    due.is("word(0, 1)", () -> x.word(0, 1), 0x01234567L);
    due.is("word(0, 2)", () -> x.word(0, 2), 0);
    due.is("word(0, 7)", () -> x.word(0, 7), 0);
    due.is("word(0, 8)", () -> x.word(0, 8), 0);
    due.is("word(0, 9)", () -> x.word(0, 9), 1);
    due.is("word(0, 15)", () -> x.word(0, 15), 0);
    due.fails("word(0, 16)", NO_SUCH, () -> x.word(0, 16));
    due.fails("word(0, -1)", NO_SUCH, () -> x.word(0, -1));
    due.fails("word(1, 0)", NO_SUCH, () -> x.word(1, 0));
    due.fails("word(-1, 0)", NO_SUCH, () -> x.word(-1, 0));
    NumberModels great = great();
    for (int k = 0; k < 8; k++) {
      int word = k;
      due.is("word " + k + " of 2^256 - 1", () -> great.word(3, word), 0xffffffffL);
    }
  }

  private void signAndBits() {
    NumberModels x = with(-5, 8, 0, 3);
    due.is("sign(0)", () -> x.sign(0), -1);
    due.is("sign(1)", () -> x.sign(1), 0);
    due.is("sign of 7", () -> with(7, 1).sign(0), 1);
    due.fails("sign(2)", NO_SUCH, () -> x.sign(2));
    due.fails("sign(-1)", NO_SUCH, () -> x.sign(-1));
    due.is("bits(0, true)", () -> x.bits(0, true), 3);
    due.is("bits(0, false)", () -> x.bits(0, false), 4);
    due.is("bits(1, true)", () -> x.bits(1, true), 0);
    due.is("bits(1, false)", () -> x.bits(1, false), 1);
    due.fails("bits(2, true)", NO_SUCH, () -> x.bits(2, true));
    due.fails("bits(-1, false)", NO_SUCH, () -> x.bits(-1, false));
    for (int n = 1; n < 64; n++) {
      int length = n;
      due.is("bits of 2^" + n + " - 1", () -> with((1L << length) - 1, 1).bits(0, true), n);
      due.is("bits of 2^" + n, () -> with(1L << length, 1).bits(0, true), n + 1);
    }
  }

  private void wrap() {
    NumberModels x = with(-7, 2, 511, 2);
    due.is("wrap(-7/2, 8, true)", () -> x.wrap(0, 8, true), -3);
    due.is("wrap(-7/2, 8, false)", () -> x.wrap(0, 8, false), 253);
    due.is("wrap(-7/2, 64, true)", () -> x.wrap(0, 64, true), -3);
    due.is("wrap(-7/2, 64, false)", () -> x.wrap(0, 64, false), -3);
    due.is("wrap(-7/2, 1, true)", () -> x.wrap(0, 1, true), -1);
    due.is("wrap(-7/2, 1, false)", () -> x.wrap(0, 1, false), 1);
    due.is("wrap(511/2, 8, true)", () -> x.wrap(1, 8, true), -1);
    due.is("wrap(511/2, 8, false)", () -> x.wrap(1, 8, false), 255);
    due.is("wrap(511/2, 9, true)", () -> x.wrap(1, 9, true), 255);
    due.is("wrap(511/2, 7, false)", () -> x.wrap(1, 7, false), 127);
    due.is("wrap(-1/2, 64, true)", () -> with(-1, 2).wrap(0, 64, true), 0);
    due.is("wrap(least, 64, true)", () -> with(Long.MIN_VALUE, 1).wrap(0, 64, true), Long.MIN_VALUE);
    due.is("wrap(least, 63, true)", () -> with(Long.MIN_VALUE, 1).wrap(0, 63, true), 0);
    due.is("wrap(2^256 - 1, 64, true)", () -> great().wrap(3, 64, true), -1);
    due.is("wrap(2^256 - 1, 63, false)", () -> great().wrap(3, 63, false), Long.MAX_VALUE);
    due.fails("wrap(0, 0, true)", NOT_AS_TOLD, () -> x.wrap(0, 0, true));
    due.fails("wrap(0, 65, true)", NOT_AS_TOLD, () -> x.wrap(0, 65, true));
    due.fails("wrap(0, -1, false)", NOT_AS_TOLD, () -> x.wrap(0, -1, false));
    due.fails("wrap(2, 8, true)", NO_SUCH, () -> x.wrap(2, 8, true));
    due.fails("wrap(2, 65, true)", NO_SUCH, () -> x.wrap(2, 65, true));
  }

  private void order() {
    due.is("order of 1/3, 1/2", () -> with(1, 3, 1, 2).order(0, 1), -1);
    due.is("order of 1/2, 1/3", () -> with(1, 2, 1, 3).order(0, 1), 1);
    due.is("order of -1/3, -1/2", () -> with(-1, 3, -1, 2).order(0, 1), 1);
    due.is("order of -1/3, 0", () -> with(-1, 3, 0, 2).order(0, 1), -1);
    due.is("order of 0, -1/3", () -> with(0, 2, -1, 3).order(0, 1), 1);
    due.is("order of 2/4, 1/2", () -> with(2, 4, 1, 2).order(0, 1), 0);
    due.is("order of 0, 0", () -> with(0, 4, 0, 2).order(0, 1), 0);
    due.is("order of greatest and next", () -> with(Long.MAX_VALUE, 1, Long.MAX_VALUE - 1, 1).order(0, 1), 1);
    due.fails("order(0, 1) of one", NO_SUCH, () -> with(1, 1).order(0, 1));
    due.fails("order(1, 0) of one", NO_SUCH, () -> with(1, 1).order(1, 0));
    due.fails("order(0, -1)", NO_SUCH, () -> with(1, 1).order(0, -1));
  }

  private void meets() {
    NumberModels x = with(1, 3, -7, 2);
    due.is("1/3 and the double", () -> x.meets(0, bits(1.0 / 3)), 1);
    due.is("1/3 and the next one", () -> x.meets(0, bits(Math.nextUp(1.0 / 3))), -1);
    due.is("-7/2 and -3.5", () -> x.meets(1, bits(-3.5)), 0);
    due.is("-7/2 and -3", () -> x.meets(1, bits(-3)), -1);
    due.is("-7/2 and -4", () -> x.meets(1, bits(-4)), 1);
    due.is("-7/2 and 0", () -> x.meets(1, 0), -1);
    due.is("1/3 and -0", () -> x.meets(0, SIGN), 1);
    due.is("0 and -0", () -> with(0, 1).meets(0, SIGN), 0);
    due.is("0 and 0", () -> with(0, 1).meets(0, 0), 0);
    due.is("0 and the least", () -> with(0, 1).meets(0, 1), -1);
    due.is("1/3 and the least", () -> x.meets(0, 1), 1);
    due.is("-7/2 and the least below 0", () -> x.meets(1, 1 | SIGN), -1);
    due.is("1/3 and the greatest", () -> x.meets(0, bits(Double.MAX_VALUE)), -1);
    due.is("-7/2 and the least of all", () -> x.meets(1, bits(-Double.MAX_VALUE)), 1);
    due.is("1/3 and infinite", () -> x.meets(0, INFINITE), -1);
    due.is("-7/2 and infinite below", () -> x.meets(1, INFINITE | SIGN), 1);
    due.is("0 and infinite below", () -> with(0, 1).meets(0, INFINITE | SIGN), 1);
    due.is("NO NUMBER", () -> x.meets(0, NO_NUMBER), 2);
    due.is("another NO NUMBER", () -> x.meets(0, OTHER_NO_NUMBER), 2);
    due.is("2^256 - 1 and 2^256", () -> great().meets(3, bits(0x1p256)), -1);
    due.is("2^255 and 2^255", () -> great().meets(0, bits(0x1p255)), 0);
    due.fails("meets(2, 0)", NO_SUCH, () -> x.meets(2, 0));
    due.fails("meets(2, NO NUMBER)", NO_SUCH, () -> x.meets(2, NO_NUMBER));
    due.fails("meets(-1, 0)", NO_SUCH, () -> x.meets(-1, 0));
  }

  private void doublesOf(long p, long q, double near, double above, double below, double inside) {
    NumberModels x = with(p, q);
    String what = "nearest of " + p + "/" + q;
    due.is(what + " by 0", () -> x.nearest(0, 0), bits(near));
    due.is(what + " by 1", () -> x.nearest(0, 1), bits(above));
    due.is(what + " by 2", () -> x.nearest(0, 2), bits(below));
    due.is(what + " by 3", () -> x.nearest(0, 3), bits(inside));
  }

  private void nearest() {
    double third = 1.0 / 3;
    doublesOf(1, 3, third, Math.nextUp(third), third, third);
    doublesOf(-1, 3, -third, -third, -Math.nextUp(third), -third);
    doublesOf(-7, 2, -3.5, -3.5, -3.5, -3.5);
    doublesOf(0, -7, 0.0, 0.0, 0.0, 0.0);
    doublesOf((1L << 53) + 1, 1, 0x1p53, 0x1p53 + 2, 0x1p53, 0x1p53);
    doublesOf((1L << 53) + 3, 1, 0x1p53 + 4, 0x1p53 + 4, 0x1p53 + 2, 0x1p53 + 2);
    doublesOf(-(1L << 53) - 3, 1, -0x1p53 - 4, -0x1p53 - 2, -0x1p53 - 4, -0x1p53 - 2);
    doublesOf(Long.MAX_VALUE, 1, 0x1p63, 0x1p63, Math.nextDown(0x1p63), Math.nextDown(0x1p63));
    due.is("2^256 - 1 by 0", () -> great().nearest(3, 0), bits(0x1p256));
    due.is("2^256 - 1 by 2", () -> great().nearest(3, 2), bits(Math.nextDown(0x1p256)));
    NumberModels x = with(1, 3);
    due.fails("nearest(0, 4)", NOT_AS_TOLD, () -> x.nearest(0, 4));
    due.fails("nearest(0, -1)", NOT_AS_TOLD, () -> x.nearest(0, -1));
    due.fails("nearest(1, 0)", NO_SUCH, () -> x.nearest(1, 0));
    due.fails("nearest(1, 4)", NO_SUCH, () -> x.nearest(1, 4));
    due.fails("nearest(-1, 0)", NO_SUCH, () -> x.nearest(-1, 0));
  }

  private void floatsOf(double exact, float near, float above, float below, float inside) {
    NumberModels x = new NumberModels();
    x.real(bits(exact));
    String what = "single of " + exact;
    due.is(what + " by 0", () -> x.single(0, 0), Float.floatToIntBits(near));
    due.is(what + " by 1", () -> x.single(0, 1), Float.floatToIntBits(above));
    due.is(what + " by 2", () -> x.single(0, 2), Float.floatToIntBits(below));
    due.is(what + " by 3", () -> x.single(0, 3), Float.floatToIntBits(inside));
  }

  private void single() {
    float most = Float.MAX_VALUE;
    float least = Float.MIN_VALUE;
    float infinite = Float.POSITIVE_INFINITY;
    floatsOf(0.1, 0.1f, 0.1f, Math.nextDown(0.1f), Math.nextDown(0.1f));
    floatsOf(-0.1, -0.1f, -Math.nextDown(0.1f), -0.1f, -Math.nextDown(0.1f));
    floatsOf(0x1.000001p0, 1f, 0x1.000002p0f, 1f, 1f);
    floatsOf(0x1.000003p0, 0x1.000004p0f, 0x1.000004p0f, 0x1.000002p0f, 0x1.000002p0f);
    floatsOf(most, most, most, most, most);
    floatsOf(Math.nextUp((double) most), most, infinite, most, most);
    floatsOf(Math.nextDown(0x1.ffffffp127), most, infinite, most, most);
    floatsOf(0x1.ffffffp127, infinite, infinite, most, most);
    floatsOf(-0x1.ffffffp127, -infinite, -most, -infinite, -most);
    floatsOf(0x1p128, infinite, infinite, most, most);
    floatsOf(-0x1p200, -infinite, -most, -infinite, -most);
    floatsOf(0x1p255, infinite, infinite, most, most);
    floatsOf(0x1p-149, least, least, least, least);
    floatsOf(0x1p-150, 0f, least, 0f, 0f);
    floatsOf(0x1.8p-150, least, least, 0f, 0f);
    floatsOf(0x1.8p-149, 2 * least, 2 * least, least, least);
    floatsOf(-0x1p-150, -0f, -0f, -least, -0f);
    floatsOf(-0x1p-255, -0f, -0f, -least, -0f);
    floatsOf(0x1p-255, 0f, least, 0f, 0f);
    floatsOf(-0.0, 0f, 0f, 0f, 0f);
    floatsOf(0x1.fffffep-127, Float.MIN_NORMAL, Float.MIN_NORMAL, 0x1.fffffcp-127f, 0x1.fffffcp-127f);
    floatsOf(0x1.fffffcp-127, 0x1.fffffcp-127f, 0x1.fffffcp-127f, 0x1.fffffcp-127f, 0x1.fffffcp-127f);
    NumberModels x = with(1, 3);
    due.fails("single(0, 4)", NOT_AS_TOLD, () -> x.single(0, 4));
    due.fails("single(0, -1)", NOT_AS_TOLD, () -> x.single(0, -1));
    due.fails("single(1, 0)", NO_SUCH, () -> x.single(1, 0));
    due.fails("single(1, 4)", NO_SUCH, () -> x.single(1, 4));
  }

  private void makes(int kind, long x, long y, long want) {
    due.is("machine(" + kind + ", " + x + ", " + y + ")", () -> new NumberModels().machine(kind, x, y), want);
  }

  private void remainders() {
    makes(0, bits(5.5), bits(-2), bits(1.5));
    makes(0, bits(-5.5), bits(2), bits(-1.5));
    makes(0, bits(6), bits(2), 0);
    makes(0, bits(-6), bits(2), SIGN);
    makes(0, SIGN, bits(2), SIGN);
    makes(0, bits(1e300), bits(3), bits(1e300 % 3));
    makes(0, bits(Double.MAX_VALUE), 3, bits(Double.MAX_VALUE % (3 * Double.MIN_VALUE)));
    makes(0, 7, 4, 3);
    makes(0, bits(-3), INFINITE, bits(-3));
    makes(0, bits(3), INFINITE | SIGN, bits(3));
    makes(0, INFINITE, bits(3), NO_NUMBER);
    makes(0, INFINITE, INFINITE, NO_NUMBER);
    makes(0, bits(3), 0, NO_NUMBER);
    makes(0, bits(3), SIGN, NO_NUMBER);
    makes(0, 0, 0, NO_NUMBER);
    makes(0, OTHER_NO_NUMBER, bits(1), NO_NUMBER);
    makes(0, bits(1), OTHER_NO_NUMBER, NO_NUMBER);
  }

  private void roundings() {
    makes(1, bits(2.5), 0, bits(2));
    makes(1, bits(-2.5), 0, bits(-3));
    makes(1, bits(0.5), 0, 0);
    makes(1, 1 | SIGN, 0, bits(-1));
    makes(2, bits(2.5), 0, bits(3));
    makes(2, bits(-2.5), 0, bits(-2));
    makes(2, bits(-0.5), 0, SIGN);
    makes(2, 1, 0, bits(1));
    makes(3, bits(2.5), 0, bits(2));
    makes(3, bits(3.5), 0, bits(4));
    makes(3, bits(-2.5), 0, bits(-2));
    makes(3, bits(0.5), 0, 0);
    makes(3, bits(-0.5), 0, SIGN);
    makes(3, bits(Math.nextUp(0.5)), 0, bits(1));
    makes(3, bits(0x1p52 - 0.5), 0, bits(0x1p52));
    for (int kind = 1; kind <= 3; kind++) {
      makes(kind, 0, 0, 0);
      makes(kind, SIGN, 0, SIGN);
      makes(kind, bits(1e300), 0, bits(1e300));
      makes(kind, INFINITE, 0, INFINITE);
      makes(kind, INFINITE | SIGN, 0, INFINITE | SIGN);
      makes(kind, OTHER_NO_NUMBER, 0, NO_NUMBER);
    }
  }

  private void otherKinds() {
    makes(4, bits(1), bits(2), bits(2));
    makes(4, bits(-1), bits(-2), bits(-1));
    makes(4, SIGN, 0, 0);
    makes(4, 0, SIGN, 0);
    makes(4, INFINITE | SIGN, SIGN, SIGN);
    makes(4, bits(1), OTHER_NO_NUMBER, NO_NUMBER);
    makes(4, OTHER_NO_NUMBER, INFINITE, NO_NUMBER);
    makes(5, bits(1), bits(2), bits(1));
    makes(5, bits(-1), bits(-2), bits(-2));
    makes(5, SIGN, 0, SIGN);
    makes(5, 0, SIGN, SIGN);
    makes(5, INFINITE, bits(1), bits(1));
    makes(5, bits(1), OTHER_NO_NUMBER, NO_NUMBER);
    makes(6, bits(3), SIGN, bits(-3));
    makes(6, bits(-3), bits(5), bits(3));
    makes(6, bits(3), OTHER_NO_NUMBER, bits(-3));
    makes(6, INFINITE, bits(-1), INFINITE | SIGN);
    makes(6, NO_NUMBER, bits(-1), NO_NUMBER);
    makes(6, OTHER_NO_NUMBER, bits(1), NO_NUMBER);
    makes(7, bits(1), 0, bits(Math.nextUp(1.0)));
    makes(7, bits(-1), 0, bits(Math.nextUp(-1.0)));
    makes(7, 0, 0, 1);
    makes(7, SIGN, 0, 1);
    makes(7, 1 | SIGN, 0, SIGN);
    makes(7, bits(Double.MAX_VALUE), 0, INFINITE);
    makes(7, INFINITE, 0, INFINITE);
    makes(7, INFINITE | SIGN, 0, bits(-Double.MAX_VALUE));
    makes(7, OTHER_NO_NUMBER, 0, NO_NUMBER);
    makes(8, bits(-1), 0, bits(0x1p-52));
    makes(8, bits(Double.MAX_VALUE), 0, bits(0x1p971));
    makes(8, 0, 0, 1);
    makes(8, bits(Double.MIN_NORMAL), 0, 1);
    makes(8, bits(0x1p-1021), 0, 2);
    makes(8, INFINITE | SIGN, 0, INFINITE);
    makes(8, OTHER_NO_NUMBER, 0, NO_NUMBER);
    makes(10, bits(1), bits(2), 1);
    makes(10, bits(-1), bits(-2), 3);
    makes(10, 0, SIGN, 2);
    makes(10, SIGN, 0, 2);
    makes(10, SIGN, 1, 1);
    makes(10, 1 | SIGN, 0, 1);
    makes(10, INFINITE, INFINITE, 2);
    makes(10, OTHER_NO_NUMBER, OTHER_NO_NUMBER, 4);
    makes(10, 0, NO_NUMBER, 4);
    due.fails("machine(11)", NOT_AS_TOLD, () -> new NumberModels().machine(11, 0, 0));
    due.fails("machine(-1)", NOT_AS_TOLD, () -> new NumberModels().machine(-1, 0, 0));
  }

  private void scalings() {
    makes(9, bits(3), 4, bits(48));
    makes(9, bits(-3), -1, bits(-1.5));
    makes(9, bits(3), -1076, 1);
    makes(9, bits(1), -1075, 0);
    makes(9, bits(-1), -1075, SIGN);
    makes(9, bits(Math.nextUp(1.0)), -1075, 1);
    makes(9, bits(3), -1075, 2);
    makes(9, bits(1), 1024, INFINITE);
    makes(9, bits(-1), 1024, INFINITE | SIGN);
    makes(9, bits(1), 1023, bits(0x1p1023));
    makes(9, 1, 2097, bits(0x1p1023));
    makes(9, 1, 3000, INFINITE);
    makes(9, 1, Long.MAX_VALUE, INFINITE);
    makes(9, bits(Double.MAX_VALUE), Long.MIN_VALUE, 0);
    makes(9, bits(Double.MAX_VALUE), 1L << 32, INFINITE);
    makes(9, 0, 3000, 0);
    makes(9, SIGN, -3000, SIGN);
    makes(9, SIGN, 5, SIGN);
    makes(9, INFINITE, -3000, INFINITE);
    makes(9, INFINITE | SIGN, -3000, INFINITE | SIGN);
    makes(9, OTHER_NO_NUMBER, 5, NO_NUMBER);
  }

  private void casts(int kind, long x, long want) {
    due.is("cast(" + kind + ", " + x + ")", () -> new NumberModels().cast(kind, x), want);
  }

  private void casts() {
    casts(0, bits(-3.9), -3);
    casts(0, bits(3.9), 3);
    casts(0, bits(1e30), Long.MAX_VALUE);
    casts(0, bits(-1e30), Long.MIN_VALUE);
    casts(0, bits(-0x1p63), Long.MIN_VALUE);
    casts(0, bits(Math.nextDown(0x1p63)), 0x7ffffffffffffc00L);
    casts(0, INFINITE, Long.MAX_VALUE);
    casts(0, INFINITE | SIGN, Long.MIN_VALUE);
    casts(0, OTHER_NO_NUMBER, 0);
    casts(0, SIGN, 0);
    casts(1, bits(-3.9), -3);
    casts(1, bits(1e10), Integer.MAX_VALUE);
    casts(1, bits(-1e30), Integer.MIN_VALUE);
    casts(1, bits(-0x1p31 - 0.5), Integer.MIN_VALUE);
    casts(1, INFINITE | SIGN, Integer.MIN_VALUE);
    casts(1, NO_NUMBER, 0);
    casts(2, bits(70000), 4464);
    casts(2, bits(40000), -25536);
    casts(2, bits(1e10), -1);
    casts(2, bits(-1e10), 0);
    casts(3, bits(200), -56);
    casts(3, bits(-129), 127);
    casts(3, INFINITE, -1);
    casts(4, bits(-1), 65535);
    casts(4, bits(65536.5), 0);
    casts(4, INFINITE, 65535);
    casts(4, NO_NUMBER, 0);
    casts(5, bits(0.1), 0x3dcccccdL);
    casts(5, bits(-0.1), (int) 0xbdcccccdL);
    casts(5, SIGN, Integer.MIN_VALUE);
    casts(5, bits(0x1.ffffffp127), 0x7f800000L);
    casts(5, bits(Math.nextDown(0x1.ffffffp127)), 0x7f7fffffL);
    casts(5, bits(-1e300), (int) 0xff800000L);
    casts(5, bits(0x1p-150), 0);
    casts(5, bits(Math.nextUp(0x1p-150)), 1);
    casts(5, 1, 0);
    casts(5, INFINITE, 0x7f800000L);
    casts(5, INFINITE | SIGN, (int) 0xff800000L);
    casts(5, OTHER_NO_NUMBER, 0x7fc00000L);
    casts(6, 0x3dcccccdL, bits(0.1f));
    casts(6, 0x12345678bdcccccdL, bits(-0.1f));
    casts(6, 1, bits(0x1p-149));
    casts(6, 0x807fffffL, bits(-0x1.fffffcp-127));
    casts(6, -1L << 31, SIGN);
    casts(6, 0x7f800000L, INFINITE);
    casts(6, 0xff800000L, INFINITE | SIGN);
    casts(6, 0xff800001L, NO_NUMBER);
    casts(6, 0x7fffffffL, NO_NUMBER);
    due.fails("cast(7)", NOT_AS_TOLD, () -> new NumberModels().cast(7, 0));
    due.fails("cast(-1)", NOT_AS_TOLD, () -> new NumberModels().cast(-1, 0));
  }
}
