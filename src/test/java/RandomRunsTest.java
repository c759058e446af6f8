import java.util.Random;

/** Runs of calls on fresh objects, all seventeen promises mixed, beside the Model; always the same runs. */
public final class RandomRunsTest {
  private static final int RUNS = 3000;
  private static final int CALLS = 500;

  private final Random random;
  private final Due due;
  private final int run;
  private final NumberModels real = new NumberModels();
  private final Model model = new Model();
  private final int greatness;

  private RandomRunsTest(int run, Due due) {
    this.run = run;
    this.due = due;
    this.random = new Random(run);
    this.greatness = run % 4;
  }

  public static void main(String[] args) {
    Due due = new Due();
    for (int run = 0; run < RUNS; run++) {
      new RandomRunsTest(run, due).go();
    }
    due.end();
  }

  private void go() {
    for (int call = 0; call < CALLS; call++) {
      oneCall();
    }
    tellAll();
  }

  private void check(String what, Due.Call got, Due.Call want) {
    due.same("run " + run + ": " + what, Due.answerOf(got), Due.answerOf(want));
  }

  private void oneCall() {
    int kind = random.nextInt(100);
    if (kind < 8) {
      long v = someLong();
      check("whole(" + v + ")", () -> real.whole(v), () -> model.whole(v));
    } else if (kind < 16) {
      long p = someLong();
      long q = someLong();
      check("fraction(" + p + ", " + q + ")", () -> real.fraction(p, q), () -> model.fraction(p, q));
    } else if (kind < 22) {
      long x = someBits();
      check("real(" + x + ")", () -> real.real(x), () -> model.real(x));
    } else if (kind < 60) {
      int act = random.nextInt(15) - 1;
      int a = someNumber();
      int b = someNumber();
      check("act(" + act + ", " + a + ", " + b + ")", () -> real.act(act, a, b), () -> model.act(act, a, b));
    } else if (kind < 62) {
      if (random.nextInt(12) == 0) {
        check("clear()", real::clear, model::clear);
      }
      check("count()", real::count, model::count);
    } else if (kind < 80) {
      look(someNumber());
    } else {
      doubles();
    }
  }

  private void look(int a) {
    int b = someNumber();
    int k = random.nextInt(18) - 1;
    int n = random.nextInt(67) - 1;
    int direction = random.nextInt(6) - 1;
    boolean flag = random.nextBoolean();
    long x = random.nextBoolean() || a < 0 || a >= model.count() ? someBits() : model.nearest(a, random.nextInt(4));
    check("word(" + a + ", " + k + ")", () -> real.word(a, k), () -> model.word(a, k));
    check("sign(" + a + ")", () -> real.sign(a), () -> model.sign(a));
    check("bits(" + a + ", " + flag + ")", () -> real.bits(a, flag), () -> model.bits(a, flag));
    check("wrap(" + a + ", " + n + ", " + flag + ")", () -> real.wrap(a, n, flag), () -> model.wrap(a, n, flag));
    check("order(" + a + ", " + b + ")", () -> real.order(a, b), () -> model.order(a, b));
    check("meets(" + a + ", " + x + ")", () -> real.meets(a, x), () -> model.meets(a, x));
    check("nearest(" + a + ", " + direction + ")", () -> real.nearest(a, direction), () -> model.nearest(a, direction));
    check("single(" + a + ", " + direction + ")", () -> real.single(a, direction), () -> model.single(a, direction));
  }

  private void doubles() {
    int kind = random.nextInt(13) - 1;
    long x = someBits();
    long y = kind == 9 && random.nextBoolean() ? random.nextInt(4400) - 2200 : someBits();
    check("machine(" + kind + ", " + x + ", " + y + ")", () -> real.machine(kind, x, y), () -> Model.machine(kind, x, y));
    check("cast(" + kind + ", " + x + ")", () -> real.cast(kind, x), () -> Model.cast(kind, x));
  }

  private void tellAll() {
    for (int a = 0; a < model.count(); a++) {
      for (int k = 0; k < 16; k++) {
        int number = a;
        int word = k;
        check("word(" + a + ", " + k + ")", () -> real.word(number, word), () -> model.word(number, word));
      }
    }
  }

  /** Mostly one that there is. */
  private int someNumber() {
    int there = model.count();
    return there == 0 || random.nextInt(25) == 0 ? random.nextInt(63) - 1 : random.nextInt(there);
  }

  private long someLong() {
    switch (random.nextInt(greatness == 0 ? 3 : 6)) {
      case 0:
        return random.nextInt(7) - 3;
      case 1:
        return random.nextInt(800) - 400;
      case 2:
        return random.nextInt();
      case 3:
        return 1L << random.nextInt(64);
      case 4:
        return (random.nextBoolean() ? Long.MIN_VALUE : Long.MAX_VALUE) + random.nextInt(3);
      default:
        return random.nextLong();
    }
  }

  private long someBits() {
    switch (random.nextInt(8)) {
      case 0:
        return random.nextLong();
      case 1:
        return DoubleEdges.BITS[random.nextInt(DoubleEdges.BITS.length)];
      case 2:
        return Double.doubleToLongBits(random.nextInt(2000) / 8.0 - 125);
      case 3:
        return Double.doubleToLongBits(random.nextLong() / 3.0);
      case 4:
        return random.nextLong() & 0x800fffffffffffffL | (long) (random.nextInt(9)) << 52;
      case 5:
        return Float.floatToRawIntBits(random.nextFloat() * (1 << random.nextInt(30)));
      case 6:
        return Double.doubleToLongBits(Math.scalb(random.nextGaussian(), random.nextInt(520) - 260));
      default:
        return Double.doubleToLongBits((double) Float.intBitsToFloat(random.nextInt())) + random.nextInt(3) - 1;
    }
  }
}
