/** Sentences of promises 13 to 15: numbers beside doubles, and the doubles and floats of numbers by a direction. */
final class DirectionSentences {
  private static final double GREATEST = 0x1.fffffffffffffp255;
  private static final float MOST = Float.MAX_VALUE;
  private static final float LEAST = Float.MIN_VALUE;
  private static final float BEYOND = Float.POSITIVE_INFINITY;

  /** Half a step above the greatest float, 2^128 - 2^104. */
  private static final String HALF_ABOVE = "2^128-2^103";

  private final Sentences s;

  DirectionSentences(Sentences sentences) {
    s = sentences;
  }

  void all() {
    meetsOnBothSides();
    meetsInfinite();
    meetsNoNumber();
    meetsLeast();
    nearestTies();
    nearestOneSided();
    nearestAtTheEnds();
    singleTies();
    singleBeyond();
    singleBelowNormal();
    signOfZero();
  }

  private void meets(String number, double value, int want) {
    Prepared object = new Prepared(number);
    String what = "meets(" + number + ", " + value + ")";
    s.is(what, () -> object.x.meets(object.at(0), Sentences.bits(value)), want);
  }

  private void meetsOnBothSides() {
    s.says("A NUMBER and a double, likewise; 2: that is NO NUMBER.", 13);
    meets("0", 0.0, 0);
    meets("0", -0.0, 0);
    meets("1/2^256-1", 0.0, 1);
    meets("1/2^256-1", -0.0, 1);
    meets("-1/2^256-1", 0.0, -1);
    meets("-1/2^256-1", -0.0, -1);
    meets("1", 1, 0);
    meets("1", Math.nextUp(1.0), -1);
    meets("1", Math.nextDown(1.0), 1);
    meets("-1", -1, 0);
    meets("-1", Math.nextUp(-1.0), -1);
    meets("-1", Math.nextDown(-1.0), 1);
    meets("1", -1, 1);
    meets("-1", 1, -1);
    meets("2^53+1", 0x1p53, 1);
    meets("2^53+1", 0x1p53 + 2, -1);
    meets("2^256-2^203", GREATEST, 0);
    meets("2^256-1", GREATEST, 1);
    meets("2^256-1", 0x1p256, -1);
    meets("-2^256+1", -GREATEST, -1);
    meets("-2^256+1", -0x1p256, 1);
    meets("1/2^256-1", 0x1p-256, 1);
    meets("1/2^256-1", Math.nextUp(0x1p-256), -1);
    meets("-1/2^256-1", -0x1p-256, -1);
    meets("1/2^255", 0x1p-255, 0);
    meets("2^255+1/2^255", 1, 1);
    meets("2^255-1/2^255", 1, -1);
    meets("2^255+1/2^255", Math.nextUp(1.0), -1);
  }

  private void meetsInfinite() {
    s.says("e all 1s: infinite, if f is 0, else NO NUMBER", 13);
    for (String number : new String[] {"0", "1", "-1", "2^256-1", "-2^256+1", "1/2^256-1", "-1/2^256-1"}) {
      meets(number, Double.POSITIVE_INFINITY, -1);
      meets(number, Double.NEGATIVE_INFINITY, 1);
      meets(number, Double.MAX_VALUE, -1);
      meets(number, -Double.MAX_VALUE, 1);
    }
  }

  private void meetsNoNumber() {
    s.says("NO NUMBERS with other bits may be told.", 13);
    for (String number : new String[] {"0", "2^256-1", "-1/2^255"}) {
      Prepared object = new Prepared(number);
      for (long bits : Sentences.NO_NUMBERS) {
        s.is("meets(" + number + ", " + bits + ")", () -> object.x.meets(object.at(0), bits), 2);
      }
    }
  }

  private void meetsLeast() {
    s.says("e 0: f * 2^-1074 (2^-149); else (2^52 + f) * 2^(e - 1075)", 13);
    for (double small : new double[] {Double.MIN_VALUE, Math.nextDown(Double.MIN_NORMAL), Double.MIN_NORMAL}) {
      meets("0", small, -1);
      meets("0", -small, 1);
      meets("1/2^256-1", small, 1);
      meets("-1/2^256-1", -small, -1);
      meets("-1/2^256-1", small, -1);
      meets("1/2^256-1", -small, 1);
    }
  }

  private void doubles(String number, double near, double notBelow, double notAbove, double inside) {
    Prepared object = new Prepared(number);
    double[] wants = {near, notBelow, notAbove, inside};
    for (int i = 0; i < wants.length; i++) {
      int direction = i;
      String what = "nearest(" + number + ", " + direction + ")";
      s.is(what, () -> object.x.nearest(object.at(0), direction), Sentences.bits(wants[i]));
    }
  }

  private void nearestTies() {
    s.says("0 the nearest, of two the one with f even", 14);
    doubles("2^53+1", 0x1p53, 0x1p53 + 2, 0x1p53, 0x1p53);
    doubles("2^253+2^200-1/2^200", 0x1p53, 0x1p53 + 2, 0x1p53, 0x1p53);
    doubles("2^253+2^200+1/2^200", 0x1p53 + 2, 0x1p53 + 2, 0x1p53, 0x1p53);
    doubles("2^53+3", 0x1p53 + 4, 0x1p53 + 4, 0x1p53 + 2, 0x1p53 + 2);
    doubles("2^253+3*2^200-1/2^200", 0x1p53 + 2, 0x1p53 + 4, 0x1p53 + 2, 0x1p53 + 2);
    doubles("-2^53-1", -0x1p53, -0x1p53, -0x1p53 - 2, -0x1p53);
    doubles("-2^253-2^200-1/2^200", -0x1p53 - 2, -0x1p53, -0x1p53 - 2, -0x1p53);
    doubles("-2^53-3", -0x1p53 - 4, -0x1p53 - 2, -0x1p53 - 4, -0x1p53 - 2);
    // Here the even one has another exponent.
    doubles("2^54-1", 0x1p54, 0x1p54, 0x1p54 - 2, 0x1p54 - 2);
    doubles("2^254-2^200-1/2^200", 0x1p54 - 2, 0x1p54, 0x1p54 - 2, 0x1p54 - 2);
    doubles("-2^54+1", -0x1p54, -0x1p54 + 2, -0x1p54, -0x1p54 + 2);
  }

  private void nearestOneSided() {
    s.says("1 the least that is not below it; 2 the greatest not above; 3 that of 1 and 2 which is nearer to 0.", 14);
    double up = Math.nextUp(1.0);
    double down = Math.nextDown(1.0);
    doubles("0", 0.0, 0.0, 0.0, 0.0);
    doubles("1", 1, 1, 1, 1);
    doubles("-1", -1, -1, -1, -1);
    doubles("2^53", 0x1p53, 0x1p53, 0x1p53, 0x1p53);
    doubles("2^255+1/2^255", 1, up, 1, 1);
    doubles("2^255-1/2^255", 1, 1, down, down);
    doubles("-2^255-1/2^255", -1, -1, -up, -1);
    doubles("-2^255+1/2^255", -1, -down, -1, -down);
    doubles("2^52+1/2^52", up, up, up, up);
    doubles("2^53-1/2^53", down, down, down, down);
  }

  private void nearestAtTheEnds() {
    s.says("The double of a NUMBER by a DIRECTION.", 14);
    double small = 0x1p-256;
    double overSmall = Math.nextUp(small);
    doubles("2^256-2^203", GREATEST, GREATEST, GREATEST, GREATEST);
    doubles("2^256-1", 0x1p256, 0x1p256, GREATEST, GREATEST);
    doubles("-2^256+1", -0x1p256, -GREATEST, -0x1p256, -GREATEST);
    doubles("2^256-2^202", 0x1p256, 0x1p256, GREATEST, GREATEST);
    doubles("2^256-2^202-1", GREATEST, 0x1p256, GREATEST, GREATEST);
    doubles("1/2^255", 0x1p-255, 0x1p-255, 0x1p-255, 0x1p-255);
    doubles("1/2^256-1", small, overSmall, small, small);
    doubles("-1/2^256-1", -small, -small, -overSmall, -small);
    doubles("2^256-2/2^256-1", 1, 1, Math.nextDown(1.0), Math.nextDown(1.0));
  }

  private void floats(String number, float near, float notBelow, float notAbove, float inside) {
    Prepared object = new Prepared(number);
    float[] wants = {near, notBelow, notAbove, inside};
    for (int i = 0; i < wants.length; i++) {
      int direction = i;
      String what = "single(" + number + ", " + direction + ")";
      s.is(what, () -> object.x.single(object.at(0), direction), Sentences.floatBits(wants[i]));
    }
  }

  private void singleTies() {
    s.says("0 the nearest, of two the one with f even", 15);
    floats("2^24+1", 0x1p24f, 0x1p24f + 2, 0x1p24f, 0x1p24f);
    floats("2^224+2^200-1/2^200", 0x1p24f, 0x1p24f + 2, 0x1p24f, 0x1p24f);
    // By way of a double this one would become a tie.
    floats("2^224+2^200+1/2^200", 0x1p24f + 2, 0x1p24f + 2, 0x1p24f, 0x1p24f);
    floats("2^24+3", 0x1p24f + 4, 0x1p24f + 4, 0x1p24f + 2, 0x1p24f + 2);
    floats("-2^24-1", -0x1p24f, -0x1p24f, -0x1p24f - 2, -0x1p24f);
    floats("-2^24-3", -0x1p24f - 4, -0x1p24f - 2, -0x1p24f - 4, -0x1p24f - 2);
    floats("2^25-1", 0x1p25f, 0x1p25f, 0x1p25f - 2, 0x1p25f - 2);
    s.says("1 the least that is not below it; 2 the greatest not above; 3 that of 1 and 2 which is nearer to 0.", 15);
    floats("1", 1, 1, 1, 1);
    floats("2^255+1/2^255", 1, Math.nextUp(1f), 1, 1);
    floats("2^255-1/2^255", 1, 1, Math.nextDown(1f), Math.nextDown(1f));
    floats("-2^255-1/2^255", -1, -1, -Math.nextUp(1f), -1);
    floats("-2^255+1/2^255", -1, -Math.nextDown(1f), -1, -Math.nextDown(1f));
  }

  private void singleBeyond() {
    s.says("By 0 what is at least half a step of f above the greatest one is infinite, by 1 and 2 what is beyond it may be, by 3 never.", 15);
    floats("2^128-2^104", MOST, MOST, MOST, MOST);
    floats("-2^128+2^104", -MOST, -MOST, -MOST, -MOST);
    floats("2^228-2^204+1/2^100", MOST, BEYOND, MOST, MOST);
    floats("-2^228+2^204-1/2^100", -MOST, -MOST, -BEYOND, -MOST);
    floats("2^228-2^203-1/2^100", MOST, BEYOND, MOST, MOST);
    floats("-2^228+2^203+1/2^100", -MOST, -MOST, -BEYOND, -MOST);
    floats(HALF_ABOVE, BEYOND, BEYOND, MOST, MOST);
    floats("-2^128+2^103", -BEYOND, -MOST, -BEYOND, -MOST);
    floats("2^228-2^203+1/2^100", BEYOND, BEYOND, MOST, MOST);
    floats("2^128-1", BEYOND, BEYOND, MOST, MOST);
    floats("2^128", BEYOND, BEYOND, MOST, MOST);
    floats("-2^128", -BEYOND, -MOST, -BEYOND, -MOST);
    floats("2^129", BEYOND, BEYOND, MOST, MOST);
    floats("2^256-1", BEYOND, BEYOND, MOST, MOST);
    floats("-2^256+1", -BEYOND, -MOST, -BEYOND, -MOST);
  }

  private void singleBelowNormal() {
    s.says("e 0: f * 2^-1074 (2^-149); else (2^52 + f) * 2^(e - 1075) ((2^23 + f) * 2^(e - 150)).", 15);
    float normal = Float.MIN_NORMAL;
    float under = Math.nextDown(normal);
    float over = Math.nextUp(normal);
    floats("1/2^149", LEAST, LEAST, LEAST, LEAST);
    floats("1/2^126", normal, normal, normal, normal);
    floats("2^23-1/2^149", under, under, under, under);
    floats("2^23+1/2^149", over, over, over, over);
    floats("2^24-1/2^150", normal, normal, under, under);
    floats("2^129-2^105-1/2^255", under, normal, under, under);
    floats("2^24+1/2^150", normal, over, normal, normal);
    floats("1/2^150", 0f, LEAST, 0f, 0f);
    floats("2^105+1/2^255", LEAST, LEAST, 0f, 0f);
    floats("2^105-1/2^255", 0f, LEAST, 0f, 0f);
    floats("3/2^150", 2 * LEAST, 2 * LEAST, LEAST, LEAST);
    floats("5/2^150", 2 * LEAST, 3 * LEAST, 2 * LEAST, 2 * LEAST);
    floats("3*2^105-1/2^255", LEAST, 2 * LEAST, LEAST, LEAST);
    floats("-3/2^150", -2 * LEAST, -LEAST, -2 * LEAST, -LEAST);
  }

  private void signOfZero() {
    s.says("A 0 that comes of a NUMBER below 0 has the sign, else not.", 14, 15);
    doubles("0", 0.0, 0.0, 0.0, 0.0);
    floats("0", 0f, 0f, 0f, 0f);
    floats("0/5", 0f, 0f, 0f, 0f);
    floats("1/2^256-1", 0f, LEAST, 0f, 0f);
    floats("-1/2^256-1", -0f, -0f, -LEAST, -0f);
    floats("-1/2^151", -0f, -0f, -LEAST, -0f);
    floats("-1/2^150", -0f, -0f, -LEAST, -0f);
    floats("-2^105-1/2^255", -LEAST, -0f, -LEAST, -0f);
    NumberModels x = new NumberModels();
    x.real(Sentences.SIGN);
    for (int i = 0; i < 4; i++) {
      int direction = i;
      s.is("nearest(-0, " + i + ")", () -> x.nearest(0, direction), 0);
      s.is("single(-0, " + i + ")", () -> x.single(0, direction), 0);
    }
  }
}
