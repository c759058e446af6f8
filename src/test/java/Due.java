/** Counts answers that are not the ones that are due, and tells each of them. */
final class Due {
  /** A call whose answer, or exception, is looked at. */
  interface Call {
    long answer();
  }

  private static final int MOST_TOLD = 40;

  private int checked;
  private int wrong;

  /** The answer as text, or throws.Name of the exception. */
  static String answerOf(Call call) {
    try {
      return Long.toString(call.answer());
    } catch (RuntimeException e) {
      // getClass, not instanceof: the machine's own ArrayIndexOutOfBoundsException is none that may come.
      return "throws." + e.getClass().getSimpleName();
    }
  }

  void same(String what, String got, String want) {
    checked++;
    if (!got.equals(want)) {
      wrong++;
      if (wrong <= MOST_TOLD) {
        System.out.println(what + " answered " + got + ", due is " + want);
      }
    }
  }

  void is(String what, Call call, long want) {
    same(what, answerOf(call), Long.toString(want));
  }

  void fails(String what, Class<? extends RuntimeException> want, Call call) {
    same(what, answerOf(call), "throws." + want.getSimpleName());
  }

  void holds(String what, boolean holds) {
    same(what, holds ? "yes" : "no", "yes");
  }

  /** The last line of a test's main. */
  void end() {
    System.out.println(checked + " answers looked at, " + wrong + " not as due");
    if (wrong != 0 || checked == 0) {
      System.exit(1);
    }
  }
}
