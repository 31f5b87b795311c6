import java.io.IOException;
import java.nio.file.Files;
import java.nio.file.Path;
import java.util.ArrayList;
import java.util.List;

/** The example of README.md answers as it says; it is the one that runs here. */
public final class ReadmeTest {
  private static final Path README = Path.of("README.md");
  private static final Path SELF = Path.of("src", "test", "java", "ReadmeTest.java");

  public static void main(String[] args) throws IOException {
    Check check = new Check("ReadmeTest");
    run(check);
    List<String> told = between(README, "```java", "```");
    check.same("the example", told, between(SELF, "// The example begins.", "// The example ends."));
    check.same("it is there", told.size() > 10, true);
    check.end();
  }

  private static void run(Check check) {
    // The example begins.
    SeamarkNet net = new SeamarkNet();

    // 33 - 34 on a wide CABLE, 65 - 66 on a narrow one; 34 and 65 are of one MACHINE, which FORWARDS.
    int wide = net.addCable(200);
    int narrow = net.addCable(40);
    int here = net.addMachine(false);
    int between = net.addMachine(true);
    int there = net.addMachine(false);
    net.addPort(here, wide, 33, 3);
    net.addPort(between, wide, 34, 3);
    net.addPort(between, narrow, 65, 3);
    net.addPort(there, narrow, 66, 3);

    // 64 to 95 lead over 34, and 32 to 63, back again, over 65.
    net.addRoute(here, 64, 3, 34);
    net.addRoute(there, 32, 3, 65);

    // An ASK of the SIZE 60 to 66, with TTL 5; it may be split.
    int ask = net.send(here, 66, true, 60, 5, false); // 0, its NUMBER
    int waiting = net.waiting(here); // 1, as the MARK of 34 is not KNOWN yet
    int frames = net.frames(); // 1, the QUESTION for it
    while (net.frames() > 0) {
      net.step(60);
    }

    // What became of it.
    int steps = net.steps(); // 11
    int known = net.knows(here, 34); // 4, the MARK of the first PORT of the MACHINE 1
    int noted = net.noted(here); // 1
    int kind = net.note(here, 0, 0); // 2, an ANSWER
    int from = net.note(here, 0, 1); // 66
    int about = net.note(here, 0, 5); // 0, the NUMBER of the ASK
    int gone = net.gone(); // 0

    // What would be.
    int hops = net.hops(here, 66); // 2
    int widest = net.widest(here, 66); // 36, which with 4 more just fits the narrow CABLE
    int teller = net.whoTells(here, 66, 1); // 34, where the TTL 1 would end

    // A call that is refused changes nothing.
    boolean isRefused = false;
    try {
      net.addPort(here, narrow, 66, 3);
    } catch (IllegalStateException taken) {
      isRefused = true; // another PORT has this ADDRESS
    }
    // The example ends.
    check.same("ask", ask, 0);
    check.same("waiting", waiting, 1);
    check.same("frames", frames, 1);
    check.same("frames left", net.frames(), 0);
    check.same("steps", steps, 11);
    check.same("known", known, 4);
    check.same("noted", noted, 1);
    check.same("kind", kind, 2);
    check.same("from", from, 66);
    check.same("about", about, 0);
    check.same("gone", gone, 0);
    check.same("hops", hops, 2);
    check.same("widest", widest, 36);
    check.same("teller", teller, 34);
    check.same("isRefused", isRefused, true);
  }

  /** The lines behind the one that is begin and ahead of the one that is end, without indentation. */
  private static List<String> between(Path file, String begin, String end) throws IOException {
    List<String> found = new ArrayList<>();
    boolean isInside = false;
    for (String line : Files.readAllLines(file)) {
      String words = line.strip();
      if (isInside && words.equals(end)) {
        return found;
      }
      if (isInside) {
        found.add(words);
      }
      isInside = isInside || words.equals(begin);
    }
    return found;
  }
}
