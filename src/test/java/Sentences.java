import java.io.IOException;
import java.nio.file.Files;
import java.nio.file.Path;
import java.util.Arrays;
import java.util.Set;
import java.util.TreeSet;
import java.util.function.Supplier;

/** Answers at the edges that sentences of the document name: what is wrong is told with promise and sentence. */
final class Sentences {
  static final Class<IndexOutOfBoundsException> NO_SUCH = IndexOutOfBoundsException.class;
  static final Class<IllegalArgumentException> NOT_AS_TOLD = IllegalArgumentException.class;
  static final Class<ArithmeticException> BY_ZERO = ArithmeticException.class;
  static final Class<IllegalStateException> TOO_MUCH = IllegalStateException.class;

  static final long NO_NUMBER = 0x7ff8000000000000L;
  static final long INFINITE = 0x7ff0000000000000L;
  static final long SIGN = 0x8000000000000000L;

  /** NO NUMBERS, the first and the last one on each side and some with one bit of f. */
  static final long[] NO_NUMBERS = {
    NO_NUMBER, 0x7ff0000000000001L, 0x7fffffffffffffffL, 0x7ff0000100000000L, 0x7ff4000000000000L,
    0xfff8000000000000L, 0xfff0000000000001L, 0xffffffffffffffffL, 0xfff0000080000000L,
  };

  private static final Path DOCUMENT = Path.of("../shared/DOC.md");
  private static final int PROMISES = 17;

  /** So many numbers are looked at in one object: its 512 calls are not enough for the words of 60. */
  private static final int LOOKED_AT = 20;

  /** A call on an object that has been prepared. */
  interface Attempt {
    long on(Prepared object);
  }

  private final Due due = new Due();
  private final String document;
  private final Set<Integer> named = new TreeSet<>();
  private String where = "";

  Sentences() throws IOException {
    document = Files.readString(DOCUMENT).replaceAll("\\s+", " ");
  }

  static long bits(double value) {
    return Double.doubleToLongBits(value);
  }

  static int floatBits(float value) {
    return Float.floatToIntBits(value);
  }

  /** What follows tests these words of the document, for these promises. */
  void says(String words, int... promises) {
    due.holds("the document says \"" + words + "\"", document.contains(words));
    where = "Promise " + Arrays.toString(promises) + " \"" + words + "\": ";
    for (int promise : promises) {
      named.add(promise);
    }
  }

  void is(String what, Due.Call call, long want) {
    due.is(where + what, call, want);
  }

  /** Whether a number is this one, given in lowest terms: its sign, its words, its bits. */
  void isNumber(String what, NumberModels x, int a, String written) {
    Exact want = Exact.of(written);
    due.holds(where + written + " is in lowest terms", want.isInLowestTerms());
    looksLike(what, x, a, want);
    is(what + ": bits of P", () -> x.bits(a, true), want.p().abs().bitLength());
    is(what + ": bits of Q", () -> x.bits(a, false), want.q().bitLength());
  }

  private void looksLike(String what, NumberModels x, int a, Exact want) {
    is(what + ": sign", () -> x.sign(a), want.p().signum());
    for (int k = 0; k < 16; k++) {
      int word = k;
      is(what + ": word " + k, () -> x.word(a, word), want.word(k));
    }
  }

  void acts(int act, String a, String b, String want) {
    Prepared object = new Prepared(a, b);
    String what = "act(" + act + ") of " + a + " and " + b;
    int before = object.x.count();
    is(what, () -> object.x.act(act, object.at(0), object.at(1)), before);
    is(what + ": count()", object.x::count, before + 1);
    isNumber(what, object.x, before, want);
  }

  void refusesAct(Class<? extends RuntimeException> want, int act, String a, String b) {
    String what = "act(" + act + ") of " + a + " and " + b;
    refuses(what, want, () -> new Prepared(a, b), o -> o.x.act(act, o.at(0), o.at(1)));
  }

  void refusesActOfFull(Class<? extends RuntimeException> want, int act, String a, String b) {
    String what = "there being 60, act(" + act + ") of " + a + " and " + b;
    refuses(what, want, () -> new Prepared(a, b).full(), o -> o.x.act(act, o.at(0), o.at(1)));
  }

  /** The exception is due, and the object is then as one on which nothing was tried. */
  void refuses(String what, Class<? extends RuntimeException> want, Supplier<Prepared> make, Attempt attempt) {
    int from = 0;
    int there;
    do {
      Prepared tried = make.get();
      NumberModels untouched = make.get().x;
      due.fails(where + what, want, () -> attempt.on(tried));
      there = untouched.count();
      is(what + ", then count()", tried.x::count, there);
      for (int a = from; a < Math.min(from + LOOKED_AT, there); a++) {
        isAlike(what + ", then number " + a, tried.x, untouched, a);
      }
      if (there < Prepared.MOST_NUMBERS) {
        int next = there;
        is(what + ", then whole(-7)", () -> tried.x.whole(-7), next);
        looksLike(what + ", then -7", tried.x, next, Exact.of("-7"));
      }
      from += LOOKED_AT;
    } while (from < there);
  }

  private void isAlike(String what, NumberModels tried, NumberModels untouched, int a) {
    is(what + ": sign", () -> tried.sign(a), untouched.sign(a));
    for (int k = 0; k < 16; k++) {
      int word = k;
      is(what + ": word " + k, () -> tried.word(a, word), untouched.word(a, word));
    }
  }

  void end() {
    for (int promise = 1; promise <= PROMISES; promise++) {
      due.holds("promise " + promise + " has a sentence", named.contains(promise));
    }
    due.end();
  }
}
