import java.util.function.Supplier;

/** Calls that are refused: each throws the exception that is due; all of them change nothing. */
final class Refused {
  private Refused() {}

  interface Call {
    Object on(SeamarkNet net);
  }

  static void bounds(Check check, Supplier<SeamarkNet> net, Call... calls) {
    all(check, "throws java.lang.IndexOutOfBoundsException", net, calls);
  }

  static void argument(Check check, Supplier<SeamarkNet> net, Call... calls) {
    all(check, "throws java.lang.IllegalArgumentException", net, calls);
  }

  static void state(Check check, Supplier<SeamarkNet> net, Call... calls) {
    all(check, "throws java.lang.IllegalStateException", net, calls);
  }

  private static void all(Check check, String due, Supplier<SeamarkNet> made, Call... calls) {
    SeamarkNet net = made.get();
    for (int at = 0; at < calls.length; at++) {
      Call call = calls[at];
      check.same("refused call " + (at + 1), Check.answerOf(() -> call.on(net)), due);
    }
    check.same("what is refused changes nothing", View.all(net), View.all(made.get()));
  }
}
