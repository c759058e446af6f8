import java.math.BigDecimal;
import java.math.BigInteger;
import java.util.ArrayList;
import java.util.List;

/** The document once more, by the library's BigInteger and the machine's own doubles. */
final class Model {
  private static final BigInteger BOUND = BigInteger.ONE.shiftLeft(256);
  private static final BigInteger ONE = BigInteger.ONE;
  private static final BigInteger ZERO = BigInteger.ZERO;

  private final List<BigInteger[]> numbers = new ArrayList<>();

  int whole(long v) {
    return keep(BigInteger.valueOf(v), ONE);
  }

  int fraction(long p, long q) {
    if (q == 0) {
      throw new ArithmeticException();
    }
    return keep(BigInteger.valueOf(p), BigInteger.valueOf(q));
  }

  int real(long bits) {
    double x = Double.longBitsToDouble(bits);
    if (Double.isNaN(x) || Double.isInfinite(x)) {
      throw new ArithmeticException();
    }
    BigInteger[] exact = exactly(x);
    return keep(exact[0], exact[1]);
  }

  int act(int act, int a, int b) {
    BigInteger[] x = number(a);
    BigInteger[] y = number(b);
    needFitting(act, x, y);
    if (act >= 3 && act <= 7 && y[0].signum() == 0 || act == 9 && x[0].signum() == 0 && y[0].signum() < 0) {
      throw new ArithmeticException();
    }
    BigInteger[] made = perform(act, x, y);
    return keep(made[0], made[1]);
  }

  private static void needFitting(int act, BigInteger[] x, BigInteger[] y) {
    boolean wholeY = y[1].equals(ONE);
    boolean fits = act >= 0 && act <= 12;
    if (act == 8) {
      fits = wholeY && x[1].equals(ONE);
    } else if (act == 9 || act == 10) {
      fits = wholeY && y[0].abs().compareTo(BigInteger.valueOf(act == 9 ? 300 : 600)) <= 0;
    }
    if (!fits) {
      throw new IllegalArgumentException();
    }
  }

  private static BigInteger[] perform(int act, BigInteger[] x, BigInteger[] y) {
    switch (act) {
      case 0:
        return plus(x, y);
      case 1:
        return plus(x, times(y, pair(ONE.negate(), ONE)));
      case 2:
        return times(x, y);
      case 3:
        return over(x, y);
      case 4:
        return pair(down(over(x, y)), ONE);
      case 5:
        return plus(x, times(pair(down(over(x, y)).negate(), ONE), y));
      case 6:
        return pair(cut(over(x, y)), ONE);
      case 7:
        return plus(x, times(pair(cut(over(x, y)).negate(), ONE), y));
      case 8:
        return pair(x[0].gcd(y[0]), ONE);
      case 9:
        int n = y[0].intValue();
        BigInteger[] base = n < 0 ? over(pair(ONE, ONE), x) : x;
        return pair(base[0].pow(Math.abs(n)), base[1].pow(Math.abs(n)));
      case 10:
        int k = y[0].intValue();
        return k >= 0 ? pair(x[0].shiftLeft(k), x[1]) : pair(x[0], x[1].shiftLeft(-k));
      case 11:
        return compare(x, y) <= 0 ? x : y;
      default:
        return compare(x, y) >= 0 ? x : y;
    }
  }

  int clear() {
    int gone = numbers.size();
    numbers.clear();
    return gone;
  }

  int count() {
    return numbers.size();
  }

  long word(int a, int k) {
    BigInteger[] x = number(a);
    if (k < 0 || k > 15) {
      throw new IndexOutOfBoundsException();
    }
    BigInteger part = k < 8 ? x[0].abs() : x[1];
    return part.shiftRight(k % 8 * 32).longValue() & 0xffffffffL;
  }

  int sign(int a) {
    return number(a)[0].signum();
  }

  int bits(int a, boolean ofP) {
    return number(a)[ofP ? 0 : 1].abs().bitLength();
  }

  long wrap(int a, int bits, boolean signed) {
    BigInteger[] x = number(a);
    if (bits < 1 || bits > 64) {
      throw new IllegalArgumentException();
    }
    BigInteger low = cut(x).mod(ONE.shiftLeft(bits));
    return (signed && low.testBit(bits - 1) ? low.subtract(ONE.shiftLeft(bits)) : low).longValue();
  }

  int order(int a, int b) {
    return compare(number(a), number(b));
  }

  int meets(int a, long bits) {
    BigInteger[] x = number(a);
    double d = Double.longBitsToDouble(bits);
    return Double.isNaN(d) ? 2 : compareDouble(x, d);
  }

  long nearest(int a, int direction) {
    BigInteger[] x = number(a);
    needDirection(direction);
    double near = new BigDecimal(x[0]).divide(new BigDecimal(x[1]), java.math.MathContext.DECIMAL128).doubleValue();
    double below = near;
    while (compareDouble(x, below) < 0) {
      below = Math.nextDown(below);
    }
    while (compareDouble(x, Math.nextUp(below)) >= 0) {
      below = Math.nextUp(below);
    }
    double above = compareDouble(x, below) == 0 ? below : Math.nextUp(below);
    double answer = choose(x, below, above, direction, Double.doubleToLongBits(below) % 2 == 0);
    return Double.doubleToLongBits(answer == 0 ? x[0].signum() < 0 ? -0.0 : 0.0 : answer);
  }

  int single(int a, int direction) {
    BigInteger[] x = number(a);
    needDirection(direction);
    double near = new BigDecimal(x[0]).divide(new BigDecimal(x[1]), java.math.MathContext.DECIMAL128).doubleValue();
    float below = (float) near;
    while (compareDouble(x, below) < 0) {
      below = Math.nextDown(below);
    }
    while (below != Float.POSITIVE_INFINITY && compareDouble(x, Math.nextUp(below)) >= 0) {
      below = Math.nextUp(below);
    }
    float above = compareDouble(x, below) == 0 ? below : Math.nextUp(below);
    float answer = (float) choose(x, below, above, direction, Float.floatToIntBits(below) % 2 == 0);
    return Float.floatToIntBits(answer == 0 ? x[0].signum() < 0 ? -0.0f : 0.0f : answer);
  }

  /** Of the neighbours; an infinite one counts for rounding as the power of 2 beyond the greatest float. */
  private static double choose(BigInteger[] x, double below, double above, int direction, boolean belowEven) {
    if (direction == 1) {
      return above;
    }
    if (direction == 2) {
      return below;
    }
    if (direction == 3) {
      return Math.abs(below) < Math.abs(above) ? below : above;
    }
    BigInteger[] twice = times(x, pair(BigInteger.TWO, ONE));
    int order = compare(twice, plus(exactly(asFloatBound(below)), exactly(asFloatBound(above))));
    if (order == 0) {
      return belowEven ? below : above;
    }
    return order < 0 ? below : above;
  }

  private static double asFloatBound(double x) {
    return Double.isInfinite(x) ? Math.copySign(0x1p128, x) : x;
  }

  private static void needDirection(int direction) {
    if (direction < 0 || direction > 3) {
      throw new IllegalArgumentException();
    }
  }

  static long machine(int kind, long xBits, long yBits) {
    double x = Double.longBitsToDouble(xBits);
    double y = Double.longBitsToDouble(yBits);
    switch (kind) {
      case 0:
        return Double.doubleToLongBits(x % y);
      case 1:
        return Double.doubleToLongBits(Math.floor(x));
      case 2:
        return Double.doubleToLongBits(Math.ceil(x));
      case 3:
        return Double.doubleToLongBits(Math.rint(x));
      case 4:
        return Double.doubleToLongBits(Math.max(x, y));
      case 5:
        return Double.doubleToLongBits(Math.min(x, y));
      case 6:
        long joined = xBits & Long.MAX_VALUE | yBits & Long.MIN_VALUE;
        return Double.doubleToLongBits(Double.longBitsToDouble(joined));
      case 7:
        return Double.doubleToLongBits(Math.nextUp(x));
      case 8:
        return Double.doubleToLongBits(Math.ulp(x));
      case 9:
        return Double.doubleToLongBits(Math.scalb(x, (int) Math.max(-3000, Math.min(yBits, 3000))));
      case 10:
        return x < y ? 1 : x == y ? 2 : x > y ? 3 : 4;
      default:
        throw new IllegalArgumentException();
    }
  }

  static long cast(int kind, long bits) {
    double x = Double.longBitsToDouble(bits);
    switch (kind) {
      case 0:
        return (long) x;
      case 1:
        return (int) x;
      case 2:
        return (short) x;
      case 3:
        return (byte) x;
      case 4:
        return (char) x;
      case 5:
        return Float.floatToIntBits((float) x);
      case 6:
        return Double.doubleToLongBits(Float.intBitsToFloat((int) bits));
      default:
        throw new IllegalArgumentException();
    }
  }

  private BigInteger[] number(int a) {
    if (a < 0 || a >= numbers.size()) {
      throw new IndexOutOfBoundsException();
    }
    return numbers.get(a);
  }

  private int keep(BigInteger p, BigInteger q) {
    BigInteger common = p.gcd(q).multiply(BigInteger.valueOf(q.signum()));
    BigInteger[] made = pair(p.divide(common), q.divide(common));
    if (numbers.size() >= 60 || made[0].abs().compareTo(BOUND) >= 0 || made[1].compareTo(BOUND) >= 0) {
      throw new IllegalStateException();
    }
    numbers.add(made);
    return numbers.size() - 1;
  }

  private static BigInteger[] pair(BigInteger p, BigInteger q) {
    return new BigInteger[] {p, q};
  }

  private static BigInteger[] plus(BigInteger[] x, BigInteger[] y) {
    return pair(x[0].multiply(y[1]).add(y[0].multiply(x[1])), x[1].multiply(y[1]));
  }

  private static BigInteger[] times(BigInteger[] x, BigInteger[] y) {
    return pair(x[0].multiply(y[0]), x[1].multiply(y[1]));
  }

  private static BigInteger[] over(BigInteger[] x, BigInteger[] y) {
    BigInteger side = BigInteger.valueOf(y[0].signum());
    return pair(x[0].multiply(y[1]).multiply(side), x[1].multiply(y[0]).multiply(side));
  }

  private static BigInteger down(BigInteger[] x) {
    return x[0].subtract(x[0].mod(x[1])).divide(x[1]);
  }

  private static BigInteger cut(BigInteger[] x) {
    return x[0].divide(x[1]);
  }

  private static int compare(BigInteger[] x, BigInteger[] y) {
    return x[0].multiply(y[1]).compareTo(y[0].multiply(x[1]));
  }

  private static int compareDouble(BigInteger[] x, double d) {
    if (Double.isInfinite(d)) {
      return d > 0 ? -1 : 1;
    }
    return compare(x, exactly(d));
  }

  private static BigInteger[] exactly(double d) {
    BigDecimal exact = new BigDecimal(d);
    if (exact.signum() == 0) {
      return pair(ZERO, ONE);
    }
    return exact.scale() <= 0
        ? pair(exact.toBigIntegerExact(), ONE)
        : pair(exact.unscaledValue(), BigInteger.TEN.pow(exact.scale()));
  }
}
