/** Bits of doubles at which something turns. */
final class DoubleEdges {
  static final long[] BITS = {
    0x0000000000000000L, 0x8000000000000000L, 1L, 0x8000000000000001L, 2L, 3L, 0x8000000000000003L,
    0x000fffffffffffffL, 0x800fffffffffffffL, 0x0010000000000000L, 0x8010000000000000L, 0x0010000000000001L,
    0x001fffffffffffffL, 0x0020000000000000L, 0x034fffffffffffffL, 0x0350000000000000L, 0x0340000000000000L,
    0x7fefffffffffffffL, 0xffefffffffffffffL, 0x7feffffffffffffeL, 0x7ff0000000000000L, 0xfff0000000000000L,
    0x7ff8000000000000L, 0xfff8000000000000L, 0x7ff0000000000001L, 0xfff0000000000001L, 0x7fffffffffffffffL, -1L,
    bits(0.5), bits(-0.5), bits(Math.nextDown(0.5)), bits(Math.nextUp(0.5)), bits(-Math.nextDown(0.5)),
    bits(1), bits(-1), bits(Math.nextDown(1.0)), bits(Math.nextUp(1.0)), bits(1.5), bits(-1.5), bits(2.5), bits(-2.5),
    bits(3.5), bits(0.1), bits(-0.1), bits(3), bits(7), bits(-7), bits(10.25), bits(1e10), bits(-1e10), bits(1e300),
    bits(0x1p52), bits(0x1p52 - 0.5), bits(0x1p52 + 1), bits(0x1p51 + 0.5), bits(0x1p51 + 1.5), bits(0x1p53),
    bits(-0x1p52 + 0.5), bits(0x1p53 - 1), bits(0x1p62), bits(0x1p63), bits(-0x1p63), bits(Math.nextDown(0x1p63)),
    bits(-Math.nextUp(0x1p63)), bits(0x1p64), bits(0x1p31), bits(0x1p31 - 1), bits(0x1p31 - 0.5), bits(-0x1p31),
    bits(-0x1p31 - 0.5), bits(-0x1p31 - 1), bits(65535), bits(65536), bits(-32769), bits(32768), bits(128), bits(-129),
    bits(127.9), bits(-0.9), bits(0x1p128), bits(-0x1p128), bits(Float.MAX_VALUE), bits(-Float.MAX_VALUE),
    bits(Math.nextUp((double) Float.MAX_VALUE)), bits(0x1.ffffffp127), bits(Math.nextDown(0x1.ffffffp127)),
    bits(Math.nextUp(0x1.ffffffp127)), bits(-0x1.ffffffp127), bits(Float.MIN_VALUE), bits(Float.MIN_NORMAL),
    bits(0x1p-150), bits(Math.nextUp(0x1p-150)), bits(Math.nextDown(0x1p-150)), bits(-0x1p-150), bits(0x1.8p-149),
    bits(0x1.fffffep-127), bits(0x1.ffffffp-127), bits(Math.nextUp(0x1.ffffffp-127)), bits(0x1.000001p0),
    bits(0x1.000003p0), bits(Math.nextUp(0x1.000001p0)), bits(0x1p255), bits(0x1p256), bits(Math.nextDown(0x1p256)),
    bits(0x1p-255), bits(0x1p-256), bits(0x1.8p-255), bits(-0x1p255), bits(0x1p-1022), bits(0x1p-1023),
    // The bits of floats, for the cast from a float.
    0x7f800000L, 0xff800000L, 0x7fc00000L, 0xffc00000L, 0x7f800001L, 0x7f7fffffL, 0xff7fffffL, 0x007fffffL,
    0x00800000L, 0x80000000L, 0x80000001L, 0xffffffffL, 0x3f800000L, 0x123456783f800000L, 0x1234567800000001L,
  };

  private DoubleEdges() {}

  private static long bits(double x) {
    return Double.doubleToLongBits(x);
  }
}
