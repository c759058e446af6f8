import java.math.BigInteger;

/** A new object with some written numbers in it, and where they stand: what they are made of stands there too. */
final class Prepared {
  static final int MOST_NUMBERS = 60;
  private static final int DOUBLE_BITS = 53;

  final NumberModels x = new NumberModels();
  private final int[] places;

  Prepared(String... numbers) {
    places = new int[numbers.length];
    for (int i = 0; i < numbers.length; i++) {
      places[i] = put(Exact.of(numbers[i]));
    }
  }

  /** Makes more until there are 60. */
  Prepared full() {
    for (int count = x.count(); count < MOST_NUMBERS; count++) {
      x.whole(count);
    }
    return this;
  }

  /** The number of the i-th one that was written. */
  int at(int i) {
    return places[i];
  }

  private int put(Exact value) {
    int p = put(value.p());
    return value.q().equals(BigInteger.ONE) ? p : x.act(3, p, put(value.q()));
  }

  /** Out of doubles, each with the next 53 bits. */
  private int put(BigInteger value) {
    BigInteger left = value.abs();
    int made = -1;
    do {
      int below = Math.max(left.bitLength() - DOUBLE_BITS, 0);
      BigInteger piece = left.shiftRight(below).shiftLeft(below);
      int next = x.real(Double.doubleToLongBits(piece.doubleValue() * value.signum()));
      made = made < 0 ? next : x.act(0, made, next);
      left = left.subtract(piece);
    } while (left.signum() != 0);
    return made;
  }
}
