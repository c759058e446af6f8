import java.math.BigInteger;

/** A number as it is written in a test: "-2^256+1", or "3*2^254-2/3*2^254", which is (3 * 2^254 - 2) / (3 * 2^254). */
record Exact(BigInteger p, BigInteger q) {
  static Exact of(String text) {
    String[] parts = text.split("/");
    return new Exact(sum(parts[0]), parts.length == 1 ? BigInteger.ONE : sum(parts[1]));
  }

  private static BigInteger sum(String text) {
    BigInteger sum = BigInteger.ZERO;
    for (String term : text.split("(?=[+-])")) {
      BigInteger size = product(term.replaceFirst("^[+-]", ""));
      sum = term.startsWith("-") ? sum.subtract(size) : sum.add(size);
    }
    return sum;
  }

  private static BigInteger product(String text) {
    BigInteger product = BigInteger.ONE;
    for (String factor : text.split("\\*")) {
      String[] power = factor.split("\\^");
      product = product.multiply(new BigInteger(power[0]).pow(power.length == 1 ? 1 : Integer.parseInt(power[1])));
    }
    return product;
  }

  /** Word k as the document counts them. */
  long word(int k) {
    return (k < 8 ? p.abs() : q).shiftRight(k % 8 * 32).longValue() & 0xffffffffL;
  }

  boolean isInLowestTerms() {
    return q.signum() > 0 && p.gcd(q).equals(BigInteger.ONE);
  }
}
