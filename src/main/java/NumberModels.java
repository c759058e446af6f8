/**
 * Exact numbers P / Q beside the doubles and floats of the machine. No double is ever
 * calculated with here: they are told, and answered, by their bits.
 */
public final class NumberModels {
  private static final int MOST_NUMBERS = 60;
  private static final int MOST_BITS = 256;
  private static final int HALF_WORDS = 8;
  private static final int NUMBER_WORDS = 2 * HALF_WORDS;

  /** Words of a Natural: a sum of two products of 256 bits each has 513 bits, a division shifts in a word more. */
  private static final int ROOM = 20;
  private static final int WORD_BITS = 32;
  private static final long WORD = 0xffffffffL;
  private static final int LONG_BITS = 64;

  private static final int SUM = 0;
  private static final int DIFFERENCE = 1;
  private static final int PRODUCT = 2;
  private static final int QUOTIENT = 3;
  private static final int QUOTIENT_DOWN = 4;
  private static final int REST_DOWN = 5;
  private static final int QUOTIENT_CUT = 6;
  private static final int REST_CUT = 7;
  private static final int COMMON_DIVISOR = 8;
  private static final int POWER = 9;
  private static final int DOUBLED = 10;
  private static final int LESSER = 11;
  private static final int GREATER = 12;
  private static final int LAST_TO_REDUCE = REST_CUT;
  private static final int MOST_POWER = 300;
  private static final int MOST_DOUBLINGS = 600;

  private static final int TO_NEAREST = 0;
  private static final int NOT_BELOW = 1;
  private static final int NOT_ABOVE = 2;
  private static final int TOWARDS_ZERO = 3;

  /** A quotient of so many bits, or one more, has all bits of a double's fraction and one that tells halves. */
  private static final int QUOTIENT_BITS = 55;

  private final long[] words = new long[MOST_NUMBERS * NUMBER_WORDS];
  private final int[] sides = new int[MOST_NUMBERS];
  private int held;

  // What a call works on. Made once, since a run of calls never gives its room back.
  private final Ratio first = new Ratio();
  private final Ratio second = new Ratio();
  private final Ratio made = new Ratio();
  private final Natural left = new Natural();
  private final Natural right = new Natural();
  private final Division division = new Division();
  private final CommonDivisor common = new CommonDivisor();

  /** Promise 1: no NUMBERS. */
  public NumberModels() {
    held = 0;
  }

  /** Promise 2: a WHOLE one. */
  public int whole(long v) throws IllegalStateException {
    made.side = compare(v, 0L);
    made.top.take(sizeOf(v));
    made.bottom.take(1L);
    return keep();
  }

  /** Promise 3: p / q. */
  public int fraction(long p, long q) throws ArithmeticException, IllegalStateException {
    if (q == 0) {
      throw new ArithmeticException("q is 0");
    }
    made.side = compare(p, 0L) * compare(q, 0L);
    made.top.take(sizeOf(p));
    made.bottom.take(sizeOf(q));
    reduce();
    return keep();
  }

  /** Promise 4: what a double is. */
  public int real(long bits) throws ArithmeticException, IllegalStateException {
    if (!Format.DOUBLE.isFinite(bits)) {
      throw new ArithmeticException("infinite, or no number");
    }
    made.top.take(Format.DOUBLE.significand(bits));
    made.bottom.take(1L);
    made.side = made.top.isZero() ? 0 : Format.DOUBLE.sideOf(bits);
    made.timesTwoTo(Format.DOUBLE.scale(bits));
    return keep();
  }

  /** Promise 5: what an ACT makes of two NUMBERS. */
  public int act(int act, int a, int b)
      throws IndexOutOfBoundsException, IllegalArgumentException, ArithmeticException, IllegalStateException {
    needNumber(a);
    needNumber(b);
    read(a, first);
    read(b, second);
    needFitting(act);
    needDivisor(act);
    perform(act);
    if (act <= LAST_TO_REDUCE) {
      reduce();
    }
    return keep();
  }

  /** Promise 6: all are gone. */
  public int clear() {
    int gone = held;
    held = 0;
    return gone;
  }

  /** Promise 7: how many there are. */
  public int count() {
    return held;
  }

  /** Promise 8: a word of P without its sign, or of Q. */
  public long word(int a, int k) throws IndexOutOfBoundsException {
    needNumber(a);
    if (k < 0 || k >= NUMBER_WORDS) {
      throw new IndexOutOfBoundsException("no such word");
    }
    return words[a * NUMBER_WORDS + k];
  }

  /** Promise 9: the sign of a NUMBER. */
  public int sign(int a) throws IndexOutOfBoundsException {
    needNumber(a);
    return sides[a];
  }

  /** Promise 10: how many bits P or Q has. */
  public int bits(int a, boolean ofP) throws IndexOutOfBoundsException {
    needNumber(a);
    read(a, first);
    return ofP ? first.top.length() : first.bottom.length();
  }

  /** Promise 11: the lowest bits of CUT of a NUMBER. */
  public long wrap(int a, int bits, boolean signed) throws IndexOutOfBoundsException, IllegalArgumentException {
    needNumber(a);
    if (bits < 1 || bits > LONG_BITS) {
      throw new IllegalArgumentException("bits are 1 to 64");
    }
    read(a, first);
    division.run(first.top, first.bottom);
    long cut = division.quotient.lowest();
    int above = LONG_BITS - bits;
    long lifted = (first.side < 0 ? -cut : cut) << above;
    return signed ? lifted >> above : lifted >>> above;
  }

  /** Promise 12: two NUMBERS beside each other. */
  public int order(int a, int b) throws IndexOutOfBoundsException {
    needNumber(a);
    needNumber(b);
    read(a, first);
    read(b, second);
    return compareRead();
  }

  /** Promise 13: a NUMBER beside a double. */
  public int meets(int a, long bits) throws IndexOutOfBoundsException {
    needNumber(a);
    if (Format.DOUBLE.isNoNumber(bits)) {
      return 2;
    }
    read(a, first);
    int side = Format.DOUBLE.sizeOf(bits) == 0 ? 0 : Format.DOUBLE.sideOf(bits);
    if (first.side != side) {
      return compare(first.side, side);
    }
    return side == 0 ? 0 : side * compareSizeWith(bits);
  }

  /** Promise 14: the double of a NUMBER. */
  public long nearest(int a, int direction) throws IndexOutOfBoundsException, IllegalArgumentException {
    needNumber(a);
    needDirection(direction);
    read(a, first);
    return formatRead(Format.DOUBLE, direction);
  }

  /** Promise 15: the float of a NUMBER. */
  public int single(int a, int direction) throws IndexOutOfBoundsException, IllegalArgumentException {
    needNumber(a);
    needDirection(direction);
    read(a, first);
    return (int) formatRead(Format.FLOAT, direction);
  }

  /** Promise 16: what the machine makes of doubles. */
  public long machine(int kind, long x, long y) throws IllegalArgumentException {
    switch (kind) {
      case 0:
        return Machine.remainder(x, y);
      case 1:
        return Machine.toWhole(x, NOT_ABOVE);
      case 2:
        return Machine.toWhole(x, NOT_BELOW);
      case 3:
        return Machine.toWhole(x, TO_NEAREST);
      case 4:
        return Machine.greater(x, y);
      case 5:
        return Machine.lesser(x, y);
      case 6:
        return Machine.withSignOf(x, y);
      case 7:
        return Machine.nextAbove(x);
      case 8:
        return Machine.stepAt(x);
      case 9:
        return Machine.timesTwoTo(x, y);
      case 10:
        return Machine.relation(x, y);
      default:
        throw new IllegalArgumentException("no such kind");
    }
  }

  /** Promise 17: what the machine casts a double to. */
  public long cast(int kind, long x) throws IllegalArgumentException {
    switch (kind) {
      case 0:
        return Machine.toLong(x);
      case 1:
        return Machine.toInt(x);
      case 2:
        return (short) Machine.toInt(x);
      case 3:
        return (byte) Machine.toInt(x);
      case 4:
        return (char) Machine.toInt(x);
      case 5:
        return (int) Machine.changeFormat(Format.DOUBLE, Format.FLOAT, x);
      case 6:
        return Machine.changeFormat(Format.FLOAT, Format.DOUBLE, x);
      default:
        throw new IllegalArgumentException("no such kind");
    }
  }

  private void needNumber(int a) {
    if (a < 0 || a >= held || a >= MOST_NUMBERS) {
      throw new IndexOutOfBoundsException("no such number");
    }
  }

  private void needDirection(int direction) {
    if (direction < TO_NEAREST || direction > TOWARDS_ZERO) {
      throw new IllegalArgumentException("no such direction");
    }
  }

  private void needFitting(int act) {
    boolean fits = act >= SUM && act <= GREATER;
    if (act == COMMON_DIVISOR) {
      fits = first.isWhole() && second.isWhole();
    } else if (act == POWER) {
      fits = second.isWholeWithin(MOST_POWER);
    } else if (act == DOUBLED) {
      fits = second.isWholeWithin(MOST_DOUBLINGS);
    }
    if (!fits) {
      throw new IllegalArgumentException("no such act, or not one of such numbers");
    }
  }

  private void needDivisor(int act) {
    boolean dividesByZero = act >= QUOTIENT && act <= REST_CUT && second.side == 0;
    boolean turnsZeroOver = act == POWER && first.side == 0 && second.side < 0;
    if (dividesByZero || turnsZeroOver) {
      throw new ArithmeticException("a divisor is 0");
    }
  }

  private void needBits(Natural size) {
    if (size.length() > MOST_BITS) {
      throw new IllegalStateException("P or Q would be too great");
    }
  }

  private void read(int a, Ratio into) {
    into.side = sides[a];
    into.top.takeWords(words, a * NUMBER_WORDS);
    into.bottom.takeWords(words, a * NUMBER_WORDS + HALF_WORDS);
  }

  /** Numbers what has been made; up to here a call has changed nothing. */
  private int keep() {
    if (held >= MOST_NUMBERS) {
      throw new IllegalStateException("there are 60");
    }
    needBits(made.top);
    needBits(made.bottom);
    sides[held] = made.side;
    made.top.giveWords(words, held * NUMBER_WORDS);
    made.bottom.giveWords(words, held * NUMBER_WORDS + HALF_WORDS);
    held++;
    return held - 1;
  }

  private void perform(int act) {
    switch (act) {
      case SUM:
        add(second.side);
        break;
      case DIFFERENCE:
        add(-second.side);
        break;
      case PRODUCT:
        multiply(second.top, second.bottom);
        break;
      case QUOTIENT:
        multiply(second.bottom, second.top);
        break;
      case QUOTIENT_DOWN:
      case QUOTIENT_CUT:
        divide();
        takeQuotient(act == QUOTIENT_DOWN);
        break;
      case REST_DOWN:
      case REST_CUT:
        divide();
        takeRest(act == REST_DOWN);
        break;
      case COMMON_DIVISOR:
        common.find(first.top, second.top);
        made.takeWhole(1, common.found);
        break;
      case POWER:
        raise((int) second.top.lowest());
        break;
      case DOUBLED:
        made.take(first);
        made.timesTwoTo(second.side * (int) second.top.lowest());
        break;
      case LESSER:
        made.take(compareRead() <= 0 ? first : second);
        break;
      default:
        made.take(compareRead() >= 0 ? first : second);
        break;
    }
  }

  private void add(int sideOfSecond) {
    left.takeProduct(first.top, second.bottom);
    right.takeProduct(second.top, first.bottom);
    made.bottom.takeProduct(first.bottom, second.bottom);
    boolean firstLeads = left.compareWith(right) >= 0;
    made.side = firstLeads ? first.side : sideOfSecond;
    made.top.take(firstLeads ? left : right);
    Natural other = firstLeads ? right : left;
    if (first.side * sideOfSecond < 0) {
      made.top.subtract(other);
    } else {
      made.top.add(other);
    }
  }

  private void multiply(Natural byTop, Natural byBottom) {
    made.side = first.side * second.side;
    made.top.takeProduct(first.top, byTop);
    made.bottom.takeProduct(first.bottom, byBottom);
  }

  /** Leaves the size of CUT of a / b in the division, and that of the rest times both Qs. */
  private void divide() {
    left.takeProduct(first.top, second.bottom);
    right.takeProduct(second.top, first.bottom);
    division.run(left, right);
  }

  private void takeQuotient(boolean down) {
    int side = first.side * second.side;
    if (down && side < 0 && !division.remainder.isZero()) {
      division.quotient.addOne();
    }
    made.takeWhole(side, division.quotient);
  }

  private void takeRest(boolean down) {
    made.side = first.side;
    made.top.take(division.remainder);
    made.bottom.takeProduct(first.bottom, second.bottom);
    if (down && first.side * second.side < 0 && !division.remainder.isZero()) {
      // DOWN is one below CUT here: the rest lies on the other side of 0, a whole b away.
      made.side = second.side;
      made.top.take(right);
      made.top.subtract(division.remainder);
    }
  }

  private void raise(int exponent) {
    made.side = (exponent & 1) == 0 ? 1 : first.side;
    boolean over = second.side < 0;
    raiseInto(made.top, over ? first.bottom : first.top, exponent);
    raiseInto(made.bottom, over ? first.top : first.bottom, exponent);
    made.straightenZero();
  }

  private void raiseInto(Natural power, Natural base, int exponent) {
    power.take(1L);
    for (int digit = lengthOf(exponent) - 1; digit >= 0; digit--) {
      left.takeProduct(power, power);
      power.take(left);
      // Every power on the way divides the last one: what is too great here stays so.
      needBits(power);
      if ((exponent >>> digit & 1) != 0) {
        left.takeProduct(power, base);
        power.take(left);
        needBits(power);
      }
    }
  }

  private void reduce() {
    made.straightenZero();
    if (made.isWhole()) {
      return;
    }
    common.find(made.top, made.bottom);
    division.run(made.top, common.found);
    made.top.take(division.quotient);
    division.run(made.bottom, common.found);
    made.bottom.take(division.quotient);
  }

  private int compareRead() {
    if (first.side != second.side) {
      return compare(first.side, second.side);
    }
    left.takeProduct(first.top, second.bottom);
    right.takeProduct(second.top, first.bottom);
    return first.side * left.compareWith(right);
  }

  /** The first one without its sign beside a double without its sign that is not 0. */
  private int compareSizeWith(long bits) {
    if (!Format.DOUBLE.isFinite(bits)) {
      return -1;
    }
    left.take(Format.DOUBLE.significand(bits));
    right.takeProduct(left, first.bottom);
    left.take(first.top);
    int scale = Format.DOUBLE.scale(bits);
    int upLeft = Math.max(-scale, 0);
    int upRight = Math.max(scale, 0);
    int byLength = compare(left.length() + upLeft, right.length() + upRight);
    if (byLength != 0) {
      return byLength;
    }
    // Shifted, the one is just as long as the other: there is room for it.
    left.shiftUp(upLeft);
    right.shiftUp(upRight);
    return left.compareWith(right);
  }

  private long formatRead(Format format, int direction) {
    if (first.side == 0) {
      return 0L;
    }
    int shift = QUOTIENT_BITS - (first.top.length() - first.bottom.length());
    left.take(first.top);
    left.shiftUp(Math.max(shift, 0));
    right.take(first.bottom);
    right.shiftUp(Math.max(-shift, 0));
    division.run(left, right);
    boolean rest = !division.remainder.isZero();
    return format.encode(first.side < 0, division.quotient.lowest(), -shift, rest, direction);
  }

  /** -1, 0 or 1: the library promises no more of its own ones than the sign. */
  private static int compare(long a, long b) {
    if (a == b) {
      return 0;
    }
    return a < b ? -1 : 1;
  }

  /** Without its sign; of the least long 2^63, as a long without sign has it. */
  private static long sizeOf(long value) {
    return value < 0 ? -value : value;
  }

  /** How many bits a value has, taken as one without sign. */
  private static int lengthOf(long value) {
    int length = 0;
    long high = value;
    for (int half = WORD_BITS; half > 0; half /= 2) {
      if (high >>> half != 0) {
        high >>>= half;
        length += half;
      }
    }
    return length + (int) high;
  }

  /** A number without sign, its words of 32 bits the lowest first; the words from size on are 0. */
  private static final class Natural {
    private final long[] words = new long[ROOM];
    private int size;

    boolean isZero() {
      return size == 0;
    }

    boolean isOne() {
      return size == 1 && words[0] == 1L;
    }

    long wordAt(int i) {
      return i >= 0 && i < ROOM ? words[i] : 0L;
    }

    long lowest() {
      return words[1] << WORD_BITS | words[0];
    }

    int length() {
      return size == 0 ? 0 : (size - 1) * WORD_BITS + lengthOf(wordAt(size - 1));
    }

    int zerosBelow() {
      for (int i = 0; i < size; i++) {
        if (words[i] != 0) {
          return i * WORD_BITS + lengthOf(words[i] & -words[i]) - 1;
        }
      }
      return 0;
    }

    void take(long value) {
      wipe();
      words[0] = value & WORD;
      words[1] = value >>> WORD_BITS;
      measure(2);
    }

    void take(Natural other) {
      System.arraycopy(other.words, 0, words, 0, ROOM);
      size = other.size;
    }

    void takeWords(long[] from, int start) {
      wipe();
      for (int i = 0; i < HALF_WORDS && start >= 0 && start < from.length - i; i++) {
        words[i] = from[start + i];
      }
      measure(HALF_WORDS);
    }

    void giveWords(long[] to, int start) {
      for (int i = 0; i < HALF_WORDS && start >= 0 && start < to.length - i; i++) {
        to[start + i] = words[i];
      }
    }

    /** Of two others. */
    void takeProduct(Natural a, Natural b) {
      wipe();
      for (int i = 0; i < a.size; i++) {
        long carry = 0;
        int end = Math.min(b.size, ROOM - 1 - i);
        for (int j = 0; j < end; j++) {
          long sum = a.words[i] * b.words[j] + words[i + j] + carry;
          words[i + j] = sum & WORD;
          carry = sum >>> WORD_BITS;
        }
        words[i + end] = carry;
      }
      measure(Math.min(a.size + b.size, ROOM));
    }

    void add(Natural other) {
      long carry = 0;
      int end = Math.min(Math.max(size, other.size) + 1, ROOM);
      for (int i = 0; i < end; i++) {
        long sum = words[i] + other.words[i] + carry;
        words[i] = sum & WORD;
        carry = sum >>> WORD_BITS;
      }
      measure(end);
    }

    void addOne() {
      long carry = 1;
      int end = Math.min(size + 1, ROOM);
      for (int i = 0; i < end && carry != 0; i++) {
        long sum = words[i] + carry;
        words[i] = sum & WORD;
        carry = sum >>> WORD_BITS;
      }
      measure(end);
    }

    /** Of one that is not greater. */
    void subtract(Natural other) {
      long borrow = 0;
      for (int i = 0; i < size; i++) {
        long difference = words[i] - other.words[i] - borrow;
        words[i] = difference & WORD;
        borrow = difference >>> (LONG_BITS - 1);
      }
      measure(size);
    }

    int compareWith(Natural other) {
      if (size != other.size) {
        return compare(size, other.size);
      }
      for (int i = size - 1; i >= 0; i--) {
        if (words[i] != other.words[i]) {
          return compare(words[i], other.words[i]);
        }
      }
      return 0;
    }

    void shiftUp(int n) {
      if (n <= 0) {
        return;
      }
      int far = n / WORD_BITS;
      int near = n % WORD_BITS;
      int end = Math.min(size + far + 1, ROOM);
      for (int i = end - 1; i >= 0; i--) {
        words[i] = (wordAt(i - far) << near | wordAt(i - far - 1) >>> (WORD_BITS - near)) & WORD;
      }
      measure(end);
    }

    void shiftDown(int n) {
      if (n <= 0) {
        return;
      }
      int far = n / WORD_BITS;
      int near = n % WORD_BITS;
      for (int i = 0; i < size; i++) {
        words[i] = (wordAt(i + far) >>> near | wordAt(i + far + 1) << (WORD_BITS - near)) & WORD;
      }
      measure(size);
    }

    /** The 64 bits from one on. */
    long bitsFrom(int n) {
      int far = n / WORD_BITS;
      int near = n % WORD_BITS;
      // The last word goes up in two shifts: one by 64 would leave it where it is.
      return wordAt(far) >>> near
          | wordAt(far + 1) << (WORD_BITS - near)
          | wordAt(far + 2) << (WORD_BITS - near) << WORD_BITS;
    }

    private void wipe() {
      for (int i = 0; i < size; i++) {
        words[i] = 0L;
      }
      size = 0;
    }

    /** Sets the size, of which is known that it is not above an end. */
    private void measure(int end) {
      size = end < ROOM ? end : ROOM;
      while (size > 0 && words[size - 1] == 0) {
        size--;
      }
    }
  }

  /** P / Q while a call works on it: side is the sign of P, top its size, bottom Q. */
  private static final class Ratio {
    private final Natural top = new Natural();
    private final Natural bottom = new Natural();
    private int side;

    void take(Ratio other) {
      side = other.side;
      top.take(other.top);
      bottom.take(other.bottom);
    }

    void takeWhole(int newSide, Natural size) {
      side = newSide;
      top.take(size);
      bottom.take(1L);
      straightenZero();
    }

    void straightenZero() {
      if (top.isZero()) {
        side = 0;
        bottom.take(1L);
      }
    }

    boolean isWhole() {
      return bottom.isOne();
    }

    boolean isWholeWithin(int most) {
      return isWhole() && top.length() < WORD_BITS && top.lowest() <= most;
    }

    /** Keeps lowest terms: the side that would lose twos gives away those that it has. */
    void timesTwoTo(int n) {
      if (side == 0) {
        return;
      }
      Natural growing = n > 0 ? top : bottom;
      Natural shrinking = n > 0 ? bottom : top;
      int given = Math.min(Math.abs(n), shrinking.zerosBelow());
      int grown = Math.abs(n) - given;
      if (growing.length() + grown > MOST_BITS) {
        throw new IllegalStateException("P or Q would be too great");
      }
      shrinking.shiftDown(given);
      growing.shiftUp(grown);
    }
  }

  /** Divides as one does by hand, a word at a time. */
  private static final class Division {
    private final Natural quotient = new Natural();
    private final Natural remainder = new Natural();
    private final Natural divisor = new Natural();

    void run(Natural dividend, Natural by) {
      quotient.take(0L);
      remainder.take(dividend);
      if (by.isZero() || dividend.compareWith(by) < 0) {
        return;
      }
      // With the divisor's highest bit at a word's top a guessed word is at most 2 too great.
      int shift = by.size * WORD_BITS - by.length();
      divisor.take(by);
      divisor.shiftUp(shift);
      remainder.shiftUp(shift);
      int places = Math.min(remainder.size, ROOM - 1) - divisor.size;
      for (int place = places; place >= 0; place--) {
        quotient.words[place] = divideAt(place);
      }
      quotient.measure(ROOM);
      remainder.measure(ROOM);
      remainder.shiftDown(shift);
    }

    private long divideAt(int place) {
      int above = place + divisor.size;
      long word = guess(remainder.wordAt(above), remainder.wordAt(above - 1), divisor.wordAt(divisor.size - 1));
      long high = remainder.wordAt(above) + takeOff(word, place);
      for (int tooGreat = 0; tooGreat < 2 && high < 0; tooGreat++) {
        high += putBack(place);
        word--;
      }
      if (above < ROOM) {
        remainder.words[above] = high & WORD;
      }
      return word;
    }

    /** (high, low) / by, but no more than a word; by has 32 bits, high is not above it. */
    private static long guess(long high, long low, long by) {
      if (by <= 0 || high >= by) {
        return WORD;
      }
      long both = high << WORD_BITS | low;
      // Halved first, since both may have 64 bits and a long is divided with its sign.
      long word = (both >>> 1) / by << 1;
      return both - word * by >= by ? word + 1 : word;
    }

    /** Takes word times the divisor off the remainder; answers what is due from the word above. */
    private long takeOff(long word, int place) {
      long carry = 0;
      long borrow = 0;
      for (int i = 0; i < divisor.size && place + i < ROOM; i++) {
        long product = word * divisor.words[i] + carry;
        carry = product >>> WORD_BITS;
        long difference = remainder.words[place + i] - (product & WORD) - borrow;
        remainder.words[place + i] = difference & WORD;
        borrow = difference >>> (LONG_BITS - 1);
      }
      return -carry - borrow;
    }

    /** Adds the divisor to the remainder; answers what goes into the word above. */
    private long putBack(int place) {
      long carry = 0;
      for (int i = 0; i < divisor.size && place + i < ROOM; i++) {
        long sum = remainder.words[place + i] + divisor.words[i] + carry;
        remainder.words[place + i] = sum & WORD;
        carry = sum >>> WORD_BITS;
      }
      return carry;
    }
  }

  /**
   * The greatest number that divides two, by Euclid's way. As long as both have many words, the
   * highest bits tell a run of quotients beforehand (Lehmer's way), and the words are gone through
   * once for the whole run.
   */
  private static final class CommonDivisor {
    /** Far above what 640 bits need: two of Euclid's steps take at least a bit off. */
    private static final int MOST_STEPS = 2000;
    private static final int LEADING_BITS = 62;

    /** Factors below it times a word, two of them and a carry, stay a long. */
    private static final long FACTOR_BOUND = 1L << 31;

    private final Natural found = new Natural();
    private final Natural next = new Natural();
    private final Division division = new Division();

    // After a run of steps: found is found * a + next * b, next is found * c + next * d.
    private long a;
    private long b;
    private long c;
    private long d;

    void find(Natural one, Natural other) {
      found.take(one);
      next.take(other);
      for (int step = 0; step < MOST_STEPS && next.length() > LEADING_BITS; step++) {
        if (foresee()) {
          stepAsForeseen();
        } else {
          stepOnce();
        }
      }
      if (next.isZero()) {
        return;
      }
      if (found.length() > LEADING_BITS) {
        stepOnce();
      }
      found.take(ofLongs(found.lowest(), next.lowest()));
    }

    private void stepOnce() {
      division.run(found, next);
      found.take(next);
      next.take(division.remainder);
    }

    /** Sets a to d for as many steps as the highest bits are sure of: whether there is one. */
    private boolean foresee() {
      a = 1;
      b = 0;
      c = 0;
      d = 1;
      if (found.compareWith(next) < 0) {
        return false;
      }
      int cut = found.length() - LEADING_BITS;
      long x = found.bitsFrom(cut);
      long y = next.bitsFrom(cut);
      for (int step = 0; step < LEADING_BITS && y + c > 0 && y + d > 0; step++) {
        // What has been cut off lies between these two: if they agree, it does not matter.
        long quotient = (x + a) / (y + c);
        if (quotient != (x + b) / (y + d) || !turn(quotient)) {
          break;
        }
        long rest = x - quotient * y;
        x = y;
        y = rest;
      }
      return b != 0;
    }

    /** Takes a step into a to d, if they stay small. */
    private boolean turn(long quotient) {
      if (quotient >= FACTOR_BOUND) {
        return false;
      }
      long newC = a - quotient * c;
      long newD = b - quotient * d;
      if (Math.abs(newC) >= FACTOR_BOUND || Math.abs(newD) >= FACTOR_BOUND) {
        return false;
      }
      a = c;
      b = d;
      c = newC;
      d = newD;
      return true;
    }

    private void stepAsForeseen() {
      long carry = 0;
      long nextCarry = 0;
      int end = found.size;
      for (int i = 0; i < end; i++) {
        long sum = a * found.words[i] + b * next.words[i] + carry;
        long nextSum = c * found.words[i] + d * next.words[i] + nextCarry;
        found.words[i] = sum & WORD;
        next.words[i] = nextSum & WORD;
        carry = sum >> WORD_BITS;
        nextCarry = nextSum >> WORD_BITS;
      }
      found.measure(end);
      next.measure(end);
    }

    private static long ofLongs(long one, long other) {
      long greatest = one;
      long rest = other;
      for (int step = 0; step < MOST_STEPS && rest != 0; step++) {
        long after = greatest % rest;
        greatest = rest;
        rest = after;
      }
      return greatest;
    }
  }

  /** How a double or a float lies in its bits. */
  private enum Format {
    DOUBLE(52, 2047, -1074, 0x7ff8000000000000L),
    FLOAT(23, 255, -149, 0x7fc00000L);

    private final int fractionBits;
    private final int lastExponent;
    private final int leastScale;
    private final long noNumber;
    private final long infinite;
    private final long signBit;

    Format(int fractionBits, int lastExponent, int leastScale, long noNumber) {
      this.fractionBits = fractionBits;
      this.lastExponent = lastExponent;
      this.leastScale = leastScale;
      this.noNumber = noNumber;
      this.infinite = (long) lastExponent << fractionBits;
      this.signBit = lastExponent + 1L << fractionBits;
    }

    /** The bits but for the sign: they stand in the order of the sizes. */
    long sizeOf(long bits) {
      return bits & signBit - 1;
    }

    boolean hasSign(long bits) {
      return (bits & signBit) != 0;
    }

    int sideOf(long bits) {
      return hasSign(bits) ? -1 : 1;
    }

    boolean isNoNumber(long bits) {
      return sizeOf(bits) > infinite;
    }

    boolean isFinite(long bits) {
      return sizeOf(bits) < infinite;
    }

    int exponent(long bits) {
      return (int) (sizeOf(bits) >>> fractionBits);
    }

    /** What is finite is significand * 2^scale. */
    long significand(long bits) {
      long hidden = 1L << fractionBits;
      long shown = bits & hidden - 1;
      return exponent(bits) == 0 ? shown : hidden + shown;
    }

    int scale(long bits) {
      return Math.max(exponent(bits), 1) - 1 + leastScale;
    }

    long signed(boolean below, long size) {
      return below ? size | signBit : size;
    }

    /**
     * The bits of (significand + rest) * 2^scale by a direction; the rest, if there is one, is
     * above 0 and below 1, and the significand has then some bits more than a fraction has.
     */
    long encode(boolean below, long significand, int scale, boolean rest, int direction) {
      if (significand == 0) {
        return signed(below, 0L);
      }
      int step = Math.max(lengthOf(significand) + scale - fractionBits - 1, leastScale);
      // Highest bit and exponent are added, not joined: so a carry goes on into the exponent.
      int exponentBelow = step - leastScale;
      if (exponentBelow + 1 >= lastExponent) {
        return signed(below, beyond(below, direction));
      }
      long kept = dropLow(below, significand, step - scale, rest, direction);
      long size = ((long) exponentBelow << fractionBits) + kept;
      return signed(below, size >= infinite ? beyond(below, direction) : size);
    }

    /** What stands, without sign, for one that is beyond the greatest. */
    private long beyond(boolean below, int direction) {
      boolean stays = direction == TOWARDS_ZERO || direction == (below ? NOT_BELOW : NOT_ABOVE);
      return stays ? infinite - 1 : infinite;
    }

    /** (significand + rest) / 2^dropped as a whole one by a direction; the significand is below 2^60. */
    static long dropLow(boolean below, long significand, int dropped, boolean rest, int direction) {
      if (dropped <= 0) {
        return significand << -dropped;
      }
      // From 61 bits on nothing is kept and what is dropped is less than half.
      int places = Math.min(dropped, LONG_BITS - 2);
      long kept = significand >>> places;
      long half = 1L << places - 1;
      long low = significand & (half << 1) - 1;
      boolean up;
      if (direction == TO_NEAREST) {
        up = low > half || low == half && (rest || (kept & 1) != 0);
      } else {
        up = (low != 0 || rest) && direction == (below ? NOT_ABOVE : NOT_BELOW);
      }
      return up ? kept + 1 : kept;
    }
  }

  /** What the machine does with doubles. */
  private static final class Machine {
    private static final long MOST_SCALING = 3000L;
    private static final long GREATEST_LONG = 0x7fffffffffffffffL;
    private static final long LEAST_LONG = -GREATEST_LONG - 1;
    private static final long GREATEST_INT = 0x7fffffffL;
    private static final long LEAST_INT = -GREATEST_INT - 1;

    /** A significand has 53 bits: so many more leave it a long above 0. */
    private static final int FREE_BITS = 10;

    static boolean oneIsNoNumber(long x, long y) {
      return Format.DOUBLE.isNoNumber(x) || Format.DOUBLE.isNoNumber(y);
    }

    static long remainder(long x, long y) {
      Format format = Format.DOUBLE;
      if (oneIsNoNumber(x, y) || !format.isFinite(x) || format.sizeOf(y) == 0) {
        return format.noNumber;
      }
      if (format.sizeOf(x) < format.sizeOf(y)) {
        return x;
      }
      long divisor = format.significand(y);
      long rest = restOfShifted(format.significand(x), format.scale(x) - format.scale(y), divisor);
      return format.encode(format.hasSign(x), rest, format.scale(y), false, TO_NEAREST);
    }

    /** The rest of value * 2^shift, which may have some 2100 bits. */
    private static long restOfShifted(long value, int shift, long divisor) {
      if (divisor <= 0) {
        return 0L;
      }
      long rest = value % divisor;
      for (int open = shift; open > 0; open -= FREE_BITS) {
        rest = (rest << Math.min(open, FREE_BITS)) % divisor;
      }
      return rest;
    }

    static long toWhole(long x, int direction) {
      Format format = Format.DOUBLE;
      if (format.isNoNumber(x)) {
        return format.noNumber;
      }
      int scale = format.scale(x);
      if (scale >= 0) {
        return x;
      }
      boolean below = format.hasSign(x);
      long whole = Format.dropLow(below, format.significand(x), -scale, false, direction);
      return format.encode(below, whole, 0, false, TO_NEAREST);
    }

    static long greater(long x, long y) {
      if (oneIsNoNumber(x, y)) {
        return Format.DOUBLE.noNumber;
      }
      return rank(x) >= rank(y) ? x : y;
    }

    static long lesser(long x, long y) {
      if (oneIsNoNumber(x, y)) {
        return Format.DOUBLE.noNumber;
      }
      return rank(x) <= rank(y) ? x : y;
    }

    /** Longs in the order of the doubles, -0 below 0. */
    private static long rank(long x) {
      long size = Format.DOUBLE.sizeOf(x);
      return Format.DOUBLE.hasSign(x) ? -size - 1 : size;
    }

    static long withSignOf(long x, long y) {
      Format format = Format.DOUBLE;
      return format.isNoNumber(x) ? format.noNumber : format.signed(format.hasSign(y), format.sizeOf(x));
    }

    static long nextAbove(long x) {
      Format format = Format.DOUBLE;
      if (format.isNoNumber(x)) {
        return format.noNumber;
      }
      if (format.sizeOf(x) == 0) {
        return 1L;
      }
      if (format.hasSign(x)) {
        return x - 1;
      }
      return x == format.infinite ? x : x + 1;
    }

    static long stepAt(long x) {
      Format format = Format.DOUBLE;
      if (format.isNoNumber(x)) {
        return format.noNumber;
      }
      if (!format.isFinite(x)) {
        return format.infinite;
      }
      return format.encode(false, 1L, format.scale(x), false, TO_NEAREST);
    }

    static long timesTwoTo(long x, long n) {
      Format format = Format.DOUBLE;
      if (format.isNoNumber(x)) {
        return format.noNumber;
      }
      if (!format.isFinite(x)) {
        return x;
      }
      int scaling = (int) Math.max(-MOST_SCALING, Math.min(n, MOST_SCALING));
      return format.encode(format.hasSign(x), format.significand(x), format.scale(x) + scaling, false, TO_NEAREST);
    }

    static long relation(long x, long y) {
      Format format = Format.DOUBLE;
      if (oneIsNoNumber(x, y)) {
        return 4L;
      }
      if (format.sizeOf(x) == 0 && format.sizeOf(y) == 0) {
        return 2L;
      }
      return 2L + compare(rank(x), rank(y));
    }

    static long toLong(long x) {
      Format format = Format.DOUBLE;
      if (format.isNoNumber(x)) {
        return 0L;
      }
      boolean below = format.hasSign(x);
      long significand = format.significand(x);
      int scale = format.scale(x);
      if (lengthOf(significand) + scale >= LONG_BITS) {
        return below ? LEAST_LONG : GREATEST_LONG;
      }
      long cut = Format.dropLow(below, significand, -scale, false, TOWARDS_ZERO);
      return below ? -cut : cut;
    }

    static int toInt(long x) {
      return (int) Math.max(LEAST_INT, Math.min(toLong(x), GREATEST_INT));
    }

    static long changeFormat(Format from, Format to, long bits) {
      if (from.isNoNumber(bits)) {
        return to.noNumber;
      }
      boolean below = from.hasSign(bits);
      if (!from.isFinite(bits)) {
        return to.signed(below, to.infinite);
      }
      return to.encode(below, from.significand(bits), from.scale(bits), false, TO_NEAREST);
    }
  }
}
