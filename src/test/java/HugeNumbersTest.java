import java.math.BigInteger;
import java.util.Random;

/** Acts and looks on numbers of up to 256 bits, many of them of words at which a division may slip. */
public final class HugeNumbersTest {
  private static final int ROUNDS = 6000;
  private static final int PIECE = 62;
  private static final long[] WORDS = {0L, 1L, 0xffffffffL, 0xfffffffeL, 0x80000000L, 0x7fffffffL, 0x80000001L};

  private final Random random = new Random(17);
  private final Due due = new Due();
  private final NumberModels real = new NumberModels();
  private final Model model = new Model();

  public static void main(String[] args) {
    HugeNumbersTest test = new HugeNumbersTest();
    for (int round = 0; round < ROUNDS; round++) {
      test.oneRound(round);
    }
    test.fibonacci();
    test.due.end();
  }

  private void check(String what, Due.Call got, Due.Call want) {
    due.same(what, Due.answerOf(got), Due.answerOf(want));
  }

  private void oneRound(int round) {
    // Factors in common, so that lowest terms are a long way off.
    BigInteger f = some(1 + random.nextInt(128));
    BigInteger g = some(1 + random.nextInt(64));
    int left = 256 - f.bitLength();
    BigInteger p = f.multiply(some(random.nextInt(left + 1)));
    BigInteger q = g.multiply(some(random.nextInt(256 - g.bitLength() + 1))).max(BigInteger.ONE);
    BigInteger r = g.multiply(some(random.nextInt(256 - g.bitLength() + 1))).max(BigInteger.ONE);
    BigInteger s = f.multiply(some(random.nextInt(left + 1))).max(BigInteger.ONE);
    boolean whole = random.nextInt(3) == 0;
    for (int act = 0; act <= 12; act++) {
      if (act % 5 == 0) {
        real.clear();
        model.clear();
        makeBoth(p, q, r, s, whole);
      }
      int a = whole ? lastOfP : ratio;
      int b = whole ? lastOfR : otherRatio;
      int which = act;
      String what = "round " + round + ": act(" + act + ") of " + p + "/" + q + " and " + r + "/" + s;
      check(what, () -> real.act(which, a, b), () -> model.act(which, a, b));
      look(what, model.count() - 1);
      if (act % 5 == 4) {
        check(what + " order", () -> real.order(a, b), () -> model.order(a, b));
        look(what, a);
        look(what, b);
      }
    }
  }

  private int lastOfP;
  private int lastOfR;
  private int ratio;
  private int otherRatio;

  private void makeBoth(BigInteger p, BigInteger q, BigInteger r, BigInteger s, boolean whole) {
    lastOfP = make(random.nextBoolean() ? p : p.negate());
    if (!whole) {
      ratio = actBoth(3, lastOfP, make(q));
    }
    lastOfR = make(random.nextBoolean() ? r : r.negate());
    if (!whole) {
      otherRatio = actBoth(3, lastOfR, make(s));
    }
  }

  private int wholeBoth(long v) {
    real.whole(v);
    return model.whole(v);
  }

  private int actBoth(int act, int a, int b) {
    check("act(" + act + ", " + a + ", " + b + ")", () -> real.act(act, a, b), () -> (long) model.act(act, a, b));
    return model.count() - 1;
  }

  /** Makes it piece by piece, since the face takes longs only. */
  private int make(BigInteger value) {
    BigInteger size = value.abs();
    int shift = model.count() == 0 ? wholeBoth(PIECE) : 0;
    int pieces = Math.max((size.bitLength() + PIECE - 1) / PIECE, 1);
    int made = -1;
    for (int i = pieces - 1; i >= 0; i--) {
      long piece = size.shiftRight(i * PIECE).longValue() & (1L << PIECE) - 1;
      int next = wholeBoth(value.signum() < 0 ? -piece : piece);
      made = made < 0 ? next : actBoth(0, actBoth(10, made, shift), next);
    }
    return made;
  }

  private void look(String what, int a) {
    for (int k = 0; k < 16; k++) {
      int word = k;
      check(what + " word " + k, () -> real.word(a, word), () -> model.word(a, word));
    }
    check(what + " sign", () -> real.sign(a), () -> model.sign(a));
    check(what + " bits", () -> real.bits(a, true), () -> model.bits(a, true));
    check(what + " bits of Q", () -> real.bits(a, false), () -> model.bits(a, false));
    int bits = 1 + random.nextInt(64);
    check(what + " wrap", () -> real.wrap(a, bits, true), () -> model.wrap(a, bits, true));
    check(what + " wrap", () -> real.wrap(a, bits, false), () -> model.wrap(a, bits, false));
    for (int d = 0; d < 4; d++) {
      int direction = d;
      check(what + " nearest " + d, () -> real.nearest(a, direction), () -> model.nearest(a, direction));
      check(what + " single " + d, () -> real.single(a, direction), () -> model.single(a, direction));
    }
    long near = model.nearest(a, random.nextInt(4));
    long beside = near + random.nextInt(3) - 1;
    check(what + " meets", () -> real.meets(a, beside), () -> model.meets(a, beside));
  }

  /** Euclid's longest way. */
  private void fibonacci() {
    BigInteger a = BigInteger.ONE;
    BigInteger b = BigInteger.ONE;
    while (a.add(b).bitLength() <= 256) {
      BigInteger c = a.add(b);
      a = b;
      b = c;
      real.clear();
      model.clear();
      int x = make(a);
      int y = make(b);
      actBoth(8, x, y);
      actBoth(8, y, x);
      look("fibonacci", model.count() - 1);
      int f = actBoth(3, x, y);
      look("fibonacci", f);
      actBoth(0, f, f);
      actBoth(5, y, f);
      look("fibonacci", model.count() - 1);
    }
  }

  private BigInteger some(int bits) {
    BigInteger made = BigInteger.ZERO;
    boolean slippery = random.nextInt(3) != 0;
    for (int i = 0; i < bits; i += 32) {
      long word = slippery ? WORDS[random.nextInt(WORDS.length)] : random.nextInt() & 0xffffffffL;
      made = made.shiftLeft(32).add(BigInteger.valueOf(word));
    }
    made = made.and(BigInteger.ONE.shiftLeft(bits).subtract(BigInteger.ONE));
    return made.signum() == 0 ? BigInteger.ONE : made;
  }
}
