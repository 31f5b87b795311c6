import java.util.HashSet;
import java.util.Set;

/** Tests of single sentences of the document, each named by its promise and by its words. */
final class Sentences {
  private final String test;
  private final Set<String> tested = new HashSet<>();
  private int wrong;

  Sentences(String test) {
    this.test = test;
  }

  interface Body {
    void run(Check check);
  }

  void test(String sentence, Body body) {
    Check check = new Check(test + ", \"" + sentence + "\"");
    check.same("it has one test", tested.add(sentence), true);
    int made = check.made();
    try {
      body.run(check);
    } catch (RuntimeException thrown) {
      check.same("a call " + callerOf(thrown), thrown.toString(), "no exception");
    }
    check.same("it is looked at", check.made() > made, true);
    if (check.isWrong()) {
      wrong++;
    }
  }

  /** The line of the test, not that of the class, where the exception went through. */
  private static String callerOf(RuntimeException thrown) {
    for (StackTraceElement at : thrown.getStackTrace()) {
      if (at.getFileName() != null && at.getFileName().endsWith("Test.java")) {
        return "at " + at.getFileName() + ":" + at.getLineNumber();
      }
    }
    return "somewhere";
  }

  void end() {
    System.out.println(test + ": " + tested.size() + " sentences, " + wrong + " wrong");
    if (wrong > 0 || tested.isEmpty()) {
      System.exit(1);
    }
  }
}
