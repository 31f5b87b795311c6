import java.util.Objects;

/** Counts the checks of one test, and prints each that fails. */
final class Check {
  private static final int MOST_PRINTED = 40;

  private final String test;
  private int made;
  private int wrong;

  Check(String test) {
    this.test = test;
  }

  /** A call that may throw. */
  interface Call {
    Object make();
  }

  void same(String what, Object got, Object due) {
    made++;
    if (!Objects.equals(got, due)) {
      wrong++;
      if (wrong <= MOST_PRINTED) {
        System.out.println(test + ": " + what + ": got " + got + ", due is " + due);
      }
    }
  }

  /** The simple name of the exception that the call throws, or its answer. */
  static Object answerOf(Call call) {
    try {
      return call.make();
    } catch (RuntimeException thrown) {
      // The very class: the machine's own exceptions are mostly subclasses of those due.
      return "throws " + thrown.getClass().getName();
    }
  }

  void bounds(String what, Call call) {
    same(what, answerOf(call), "throws java.lang.IndexOutOfBoundsException");
  }

  void argument(String what, Call call) {
    same(what, answerOf(call), "throws java.lang.IllegalArgumentException");
  }

  void state(String what, Call call) {
    same(what, answerOf(call), "throws java.lang.IllegalStateException");
  }

  int made() {
    return made;
  }

  boolean isWrong() {
    return wrong > 0;
  }

  void end() {
    System.out.println(test + ": " + made + " checks, " + wrong + " wrong");
    if (wrong > 0 || made == 0) {
      System.exit(1);
    }
  }
}
