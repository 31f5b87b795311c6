import java.util.Objects;

/** Counts the checks of one test, and prints each that fails. */
final class Check {
  private static final int MOST_PRINTED = 40;

  private final String test;
  private int made;
  private int wrong;

  Check(String test) {
    this.test = test;
  }

  /** A call that may throw. */
  interface Call {
    Object make();
  }

  void same(String what, Object got, Object due) {
    made++;
    if (!Objects.equals(got, due)) {
      wrong++;
      if (wrong <= MOST_PRINTED) {
        System.out.println(test + ": " + what + ": got " + got + ", due is " + due);
      }
    }
  }

  /** The simple name of the exception that the call throws, or its answer. */
  static Object answerOf(Call call) {
    try {
      return call.make();
    } catch (RuntimeException thrown) {
      // The very class: the machine's own exceptions are mostly subclasses of those due.
      return "throws " + thrown.getClass().getName();
    }
  }

  void bounds(String what, Call call) {
    same(what, answerOf(call), "throws java.lang.IndexOutOfBoundsException");
  }

  void argument(String what, Call call) {
    same(what, answerOf(call), "throws java.lang.IllegalArgumentException");
  }

  void state(String what, Call call) {
    same(what, answerOf(call), "throws java.lang.IllegalStateException");
  }

  /** These FRAMES are in the row, and no others. */
  void frames(SeamarkNet net, String... due) {
    same("frames()", net.frames(), due.length);
    for (int frame = 0; frame < due.length && frame < net.frames(); frame++) {
      same("FRAME " + frame, View.frame(net, frame), due[frame]);
    }
  }

  /** The MACHINE has NOTED that PACKET, so many back. */
  void note(SeamarkNet net, int machine, int back, String due) {
    boolean isThere = net.noted(machine) > back;
    same("NOTED by " + machine + ", " + back + " back",
        isThere ? View.note(net, machine, back) : "nothing", due);
  }

  int made() {
    return made;
  }

  boolean isWrong() {
    return wrong > 0;
  }

  void end() {
    System.out.println(test + ": " + made + " checks, " + wrong + " wrong");
    if (wrong > 0 || made == 0) {
      System.exit(1);
    }
  }
}
