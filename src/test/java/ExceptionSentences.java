import java.util.function.Supplier;

/** Which exception is due where, also where several fit; and that a refused call changes nothing. */
final class ExceptionSentences {
  /** Numbers that there are not, where there are fewer than 60: the nearest ones and the farthest. */
  private static final int[] NEVER = {-1, 60, 61, Integer.MIN_VALUE, Integer.MAX_VALUE};

  private final Sentences s;

  ExceptionSentences(Sentences sentences) {
    s = sentences;
  }

  void all() {
    noSuchNumber();
    noNumberYet();
    noSuchWord();
    notAsTold();
    byZero();
    noNumberTold();
    thereAre60();
    firstOfTwo();
    firstOfMore();
    firstOfLooks();
  }

  private static Prepared two() {
    return new Prepared("-5/7", "2^256-1");
  }

  private static Prepared empty() {
    return new Prepared();
  }

  private static Prepared full() {
    return new Prepared("-5/7", "0", "1/2").full();
  }

  private void noSuch(Supplier<Prepared> make, int a) {
    String on = "(" + a + ") ";
    s.refuses("act(0, a, 0) a " + on, Sentences.NO_SUCH, make, o -> o.x.act(0, a, 0));
    s.refuses("act(0, 0, b) b " + on, Sentences.NO_SUCH, make, o -> o.x.act(0, 0, a));
    s.refuses("act(12, a, a) a " + on, Sentences.NO_SUCH, make, o -> o.x.act(12, a, a));
    s.refuses("word" + on, Sentences.NO_SUCH, make, o -> o.x.word(a, 0));
    s.refuses("sign" + on, Sentences.NO_SUCH, make, o -> o.x.sign(a));
    s.refuses("bits" + on, Sentences.NO_SUCH, make, o -> o.x.bits(a, true));
    s.refuses("bits of Q" + on, Sentences.NO_SUCH, make, o -> o.x.bits(a, false));
    s.refuses("wrap" + on, Sentences.NO_SUCH, make, o -> o.x.wrap(a, 8, true));
    s.refuses("order(a, 0) a " + on, Sentences.NO_SUCH, make, o -> o.x.order(a, 0));
    s.refuses("order(0, b) b " + on, Sentences.NO_SUCH, make, o -> o.x.order(0, a));
    s.refuses("order(a, a) a " + on, Sentences.NO_SUCH, make, o -> o.x.order(a, a));
    s.refuses("meets" + on, Sentences.NO_SUCH, make, o -> o.x.meets(a, 0));
    s.refuses("nearest" + on, Sentences.NO_SUCH, make, o -> o.x.nearest(a, 0));
    s.refuses("single" + on, Sentences.NO_SUCH, make, o -> o.x.single(a, 0));
  }

  private void noSuchNumber() {
    s.says("IndexOutOfBoundsException: there is no such NUMBER, word", 5, 8, 9, 10, 11, 12, 13, 14, 15);
    for (int a : NEVER) {
      noSuch(ExceptionSentences::two, a);
      noSuch(ExceptionSentences::full, a);
    }
    noSuch(ExceptionSentences::two, two().x.count());
    NumberModels x = full().x;
    s.is("sign(59), there being 60", () -> x.sign(59), 1);
    s.is("sign(0), there being 60", () -> x.sign(0), -1);
    NumberModels few = two().x;
    int last = few.count() - 1;
    s.is("sign of the last one", () -> few.sign(last), 1);
    s.is("order of the last one", () -> few.order(last, last), 0);
  }

  private void noNumberYet() {
    s.says("`NumberModels()`: No NUMBERS.", 1);
    noSuch(ExceptionSentences::empty, 0);
    noSuch(ExceptionSentences::empty, -1);
  }

  private void noSuchWord() {
    s.says("there is no such NUMBER, word", 8);
    for (int k : new int[] {-1, 16, 17, Integer.MIN_VALUE, Integer.MAX_VALUE}) {
      s.refuses("word(0, " + k + ")", Sentences.NO_SUCH, ExceptionSentences::two, o -> o.x.word(0, k));
      s.refuses("word(59, " + k + ")", Sentences.NO_SUCH, ExceptionSentences::full, o -> o.x.word(59, k));
      s.refuses("word(60, " + k + ")", Sentences.NO_SUCH, ExceptionSentences::full, o -> o.x.word(60, k));
    }
    // One word further on another number begins.
    s.refuses("word(1, -1)", Sentences.NO_SUCH, ExceptionSentences::two, o -> o.x.word(1, -1));
    s.refuses("word(-1, 16)", Sentences.NO_SUCH, ExceptionSentences::two, o -> o.x.word(-1, 16));
  }

  private void notAsTold() {
    s.says("IllegalArgumentException: a kind, or what is not as told", 11, 14, 15, 16, 17);
    for (int bits : new int[] {0, -1, 65, 128, Integer.MIN_VALUE, Integer.MAX_VALUE}) {
      s.refuses("wrap(0, " + bits + ", true)", Sentences.NOT_AS_TOLD, ExceptionSentences::two, o -> o.x.wrap(0, bits, true));
      s.refuses("wrap(0, " + bits + ", false)", Sentences.NOT_AS_TOLD, ExceptionSentences::two, o -> o.x.wrap(0, bits, false));
    }
    for (int direction : new int[] {-1, 4, 5, Integer.MIN_VALUE, Integer.MAX_VALUE}) {
      s.refuses("nearest(0, " + direction + ")", Sentences.NOT_AS_TOLD, ExceptionSentences::two, o -> o.x.nearest(0, direction));
      s.refuses("single(0, " + direction + ")", Sentences.NOT_AS_TOLD, ExceptionSentences::two, o -> o.x.single(0, direction));
    }
    // A NUMBER that is 0 asks for a direction, too.
    s.refuses("nearest(0, 4) of 0", Sentences.NOT_AS_TOLD, () -> new Prepared("0"), o -> o.x.nearest(0, 4));
    s.refuses("single(0, -1) of 0", Sentences.NOT_AS_TOLD, () -> new Prepared("0"), o -> o.x.single(0, -1));
    s.says("THE MACHINE, by a kind 0 .. 10.", 16);
    for (int kind : new int[] {-1, 11, 12, 256, Integer.MIN_VALUE, Integer.MAX_VALUE}) {
      s.refuses("machine(" + kind + ", 0, 0)", Sentences.NOT_AS_TOLD, ExceptionSentences::two, o -> o.x.machine(kind, 0, 0));
      s.refuses("machine(" + kind + ", NO NUMBER, 0)", Sentences.NOT_AS_TOLD, ExceptionSentences::empty,
          o -> o.x.machine(kind, Sentences.NO_NUMBER, 0));
    }
    s.says("CASTS, by a kind 0 .. 6.", 17);
    for (int kind : new int[] {-1, 7, 8, 256, Integer.MIN_VALUE, Integer.MAX_VALUE}) {
      s.refuses("cast(" + kind + ", 0)", Sentences.NOT_AS_TOLD, ExceptionSentences::two, o -> o.x.cast(kind, 0));
      s.refuses("cast(" + kind + ", NO NUMBER)", Sentences.NOT_AS_TOLD, ExceptionSentences::empty,
          o -> o.x.cast(kind, Sentences.NO_NUMBER));
    }
  }

  private void byZero() {
    s.says("ArithmeticException: a divisor is 0 (also 0 to a number below 0)", 3, 5);
    for (int act = 3; act <= 7; act++) {
      for (String a : new String[] {"0", "1", "-5/7", "2^256-1", "-1/2^256-1"}) {
        s.refusesAct(Sentences.BY_ZERO, act, a, "0");
      }
      s.acts(act, "0", "1/2^256-1", "0");
    }
    s.refusesAct(Sentences.BY_ZERO, 9, "0", "-1");
    s.refusesAct(Sentences.BY_ZERO, 9, "0", "-2");
    s.refusesAct(Sentences.BY_ZERO, 9, "0", "-300");
    s.acts(9, "0", "0", "1");
    s.acts(9, "0", "1", "0");
    // No divisors: the other acts take a 0.
    s.acts(2, "5", "0", "0");
    s.acts(8, "5", "0", "5");
    s.acts(9, "5", "0", "1");
    s.acts(10, "5", "0", "5");
    s.acts(11, "5", "0", "0");
    s.refuses("fraction(5, 0)", Sentences.BY_ZERO, ExceptionSentences::two, o -> o.x.fraction(5, 0));
  }

  private void noNumberTold() {
    s.says("ArithmeticException: it is infinite, or NO NUMBER", 4);
    for (long bits : new long[] {Sentences.INFINITE, Sentences.INFINITE | Sentences.SIGN, Sentences.NO_NUMBER, -1L}) {
      s.refuses("real(" + bits + ")", Sentences.BY_ZERO, ExceptionSentences::two, o -> o.x.real(bits));
      s.refuses("the first call, real(" + bits + ")", Sentences.BY_ZERO, ExceptionSentences::empty, o -> o.x.real(bits));
    }
  }

  private void thereAre60() {
    s.says("IllegalStateException: there are 60, or P or Q would be too great.", 2, 3, 4, 5);
    Prepared almost = new Prepared();
    for (int i = 0; i < 59; i++) {
      almost.x.whole(i);
    }
    s.is("the 60th one", () -> almost.x.whole(-59), 59);
    s.refuses("whole(0)", Sentences.TOO_MUCH, ExceptionSentences::full, o -> o.x.whole(0));
    s.refuses("fraction(0, 1)", Sentences.TOO_MUCH, ExceptionSentences::full, o -> o.x.fraction(0, 1));
    s.refuses("real(0)", Sentences.TOO_MUCH, ExceptionSentences::full, o -> o.x.real(0));
    s.refuses("real(2^256)", Sentences.TOO_MUCH, ExceptionSentences::full, o -> o.x.real(Sentences.bits(0x1p256)));
    // Nothing but a new NUMBER needs room.
    Prepared full = full();
    s.is("word()", () -> full.x.word(full.at(0), 0), 5);
    s.is("sign()", () -> full.x.sign(full.at(0)), -1);
    s.is("bits()", () -> full.x.bits(full.at(0), false), 3);
    s.is("wrap()", () -> full.x.wrap(full.at(0), 8, true), 0);
    s.is("order()", () -> full.x.order(full.at(0), full.at(1)), -1);
    s.is("meets()", () -> full.x.meets(full.at(2), Sentences.bits(0.5)), 0);
    s.is("nearest()", () -> full.x.nearest(full.at(2), 0), Sentences.bits(0.5));
    s.is("single()", () -> full.x.single(full.at(2), 0), Sentences.floatBits(0.5f));
    s.is("machine()", () -> full.x.machine(7, 0, 0), 1);
    s.is("cast()", () -> full.x.cast(0, Sentences.bits(-2.5)), -2);
    s.is("count()", full.x::count, 60);
    s.is("clear()", full.x::clear, 60);
    s.is("whole(0) after clear()", () -> full.x.whole(0), 0);
  }

  private void firstOfTwo() {
    s.says("Exceptions: of several that fit the first one at the method; nothing is changed.", 3, 4, 5);
    // No such NUMBER, and no such act.
    s.refuses("act(13, -1, 0)", Sentences.NO_SUCH, ExceptionSentences::two, o -> o.x.act(13, -1, 0));
    s.refuses("act(-1, 0, 60)", Sentences.NO_SUCH, ExceptionSentences::two, o -> o.x.act(-1, 0, 60));
    // No such NUMBER, and one that does not fit, or a divisor 0.
    s.refuses("act(8, 1/2, 60)", Sentences.NO_SUCH, ExceptionSentences::full, o -> o.x.act(8, o.at(2), 60));
    s.refuses("act(9, 60, 1/2)", Sentences.NO_SUCH, ExceptionSentences::full, o -> o.x.act(9, 60, o.at(2)));
    s.refuses("act(3, 60, 0)", Sentences.NO_SUCH, ExceptionSentences::full, o -> o.x.act(3, 60, o.at(1)));
    // Not as told, and a divisor 0.
    s.refusesAct(Sentences.NOT_AS_TOLD, 9, "0", "-301");
    s.refusesAct(Sentences.NOT_AS_TOLD, 9, "0", "-1/2");
    s.refusesAct(Sentences.NOT_AS_TOLD, 13, "1", "0");
    // Not as told, and too great.
    s.refusesAct(Sentences.NOT_AS_TOLD, 9, "2", "301");
    s.refusesAct(Sentences.NOT_AS_TOLD, 9, "2", "-301");
    s.refusesAct(Sentences.NOT_AS_TOLD, 10, "1", "601");
    s.refusesAct(Sentences.NOT_AS_TOLD, 10, "1", "-601");
    s.refusesAct(Sentences.NOT_AS_TOLD, 13, "2^256-1", "2^256-1");
    // Not as told, and there are 60.
    s.refusesActOfFull(Sentences.NOT_AS_TOLD, 13, "1", "1");
    s.refusesActOfFull(Sentences.NOT_AS_TOLD, -1, "1", "1");
    s.refusesActOfFull(Sentences.NOT_AS_TOLD, 8, "1/2", "1");
    s.refusesActOfFull(Sentences.NOT_AS_TOLD, 8, "1", "1/2");
    s.refusesActOfFull(Sentences.NOT_AS_TOLD, 9, "1", "301");
    s.refusesActOfFull(Sentences.NOT_AS_TOLD, 10, "1", "-601");
    // A divisor is 0, or no number is told, and there are 60.
    for (int act = 3; act <= 7; act++) {
      s.refusesActOfFull(Sentences.BY_ZERO, act, "1", "0");
    }
    s.refusesActOfFull(Sentences.BY_ZERO, 9, "0", "-1");
    s.refuses("fraction(1, 0)", Sentences.BY_ZERO, ExceptionSentences::full, o -> o.x.fraction(1, 0));
    s.refuses("real(infinite)", Sentences.BY_ZERO, ExceptionSentences::full, o -> o.x.real(Sentences.INFINITE));
    s.refuses("real(NO NUMBER)", Sentences.BY_ZERO, ExceptionSentences::full, o -> o.x.real(-1L));
  }

  private void firstOfMore() {
    s.says("of several that fit the first one at the method", 5);
    // No such NUMBER, no such act, and there are 60.
    s.refuses("act(13, 60, 0)", Sentences.NO_SUCH, ExceptionSentences::full, o -> o.x.act(13, 60, 0));
    s.refuses("act(13, 0, 60)", Sentences.NO_SUCH, ExceptionSentences::full, o -> o.x.act(13, 0, 60));
    s.refuses("act(0, 60, 60)", Sentences.NO_SUCH, ExceptionSentences::full, o -> o.x.act(0, 60, 60));
    // Not as told, 0 to a number below 0, and there are 60.
    s.refusesActOfFull(Sentences.NOT_AS_TOLD, 9, "0", "-301");
    s.refusesActOfFull(Sentences.NOT_AS_TOLD, 9, "0", "-1/2");
    // There are 60, and what would come is too great: the same one.
    s.refusesActOfFull(Sentences.TOO_MUCH, 0, "2^256-1", "1");
    s.refusesActOfFull(Sentences.TOO_MUCH, 9, "2", "300");
    s.refusesActOfFull(Sentences.TOO_MUCH, 10, "1", "-600");
  }

  private void firstOfLooks() {
    s.says("of several that fit the first one at the method", 8, 11, 13, 14, 15);
    s.refuses("word(60, 16)", Sentences.NO_SUCH, ExceptionSentences::two, o -> o.x.word(60, 16));
    s.refuses("wrap(60, 0, true)", Sentences.NO_SUCH, ExceptionSentences::two, o -> o.x.wrap(60, 0, true));
    s.refuses("wrap(-1, 65, false)", Sentences.NO_SUCH, ExceptionSentences::two, o -> o.x.wrap(-1, 65, false));
    s.refuses("meets(60, NO NUMBER)", Sentences.NO_SUCH, ExceptionSentences::two, o -> o.x.meets(60, Sentences.NO_NUMBER));
    s.refuses("nearest(60, 4)", Sentences.NO_SUCH, ExceptionSentences::two, o -> o.x.nearest(60, 4));
    s.refuses("nearest(-1, -1)", Sentences.NO_SUCH, ExceptionSentences::two, o -> o.x.nearest(-1, -1));
    s.refuses("single(60, 4)", Sentences.NO_SUCH, ExceptionSentences::two, o -> o.x.single(60, 4));
    s.refuses("single(-1, -1)", Sentences.NO_SUCH, ExceptionSentences::two, o -> o.x.single(-1, -1));
  }
}
