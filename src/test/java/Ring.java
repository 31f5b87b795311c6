import java.util.Map;
import java.util.TreeMap;

/**
 * A net in which each PIECE comes when the test wants it: what 0 (17) sends to 3 (200) in PIECES of
 * 8 goes round between 1 and 2, until 1 is told, for one STEP, to let it out to the CABLE of 3.
 */
final class Ring {
  static final int TTL = 40;
  private static final int MOST_STEPS = 90;
  private static final int TO_1_FROM_0 = 4;
  private static final int TO_1_FROM_2 = 5;
  private static final int TO_2 = 8;
  private static final int TO_3 = 12;

  final SeamarkNet net = new SeamarkNet();
  private final Map<String, Integer> hops = new TreeMap<>();

  Ring() {
    net.addCable(12);
    net.addCable(100);
    net.addCable(100);
    for (int machine = 0; machine < 4; machine++) {
      net.addMachine(machine == 1 || machine == 2);
    }
    net.addPort(0, 0, 17, 4);
    net.addPort(1, 0, 18, 4);
    net.addPort(1, 1, 33, 4);
    net.addPort(1, 2, 193, 4);
    net.addPort(2, 1, 34, 4);
    net.addPort(3, 2, 200, 4);
    net.addRoute(0, 0, 0, 18);
    net.addRoute(1, 200, 7, 34);
    net.addRoute(2, 200, 7, 33);
    net.addRoute(3, 0, 0, 193);
    net.send(0, 200, false, 0, TTL, false);
    net.step(8);
    open();
    net.step(60);
    close();
  }

  private void open() {
    net.addRoute(1, 200, 8, 200);
  }

  private void close() {
    net.dropRoute(1);
  }

  /** Sends DATA of that SIZE; returns its NUMBER. */
  int send(int size) {
    return net.send(0, 200, false, size, TTL, false);
  }

  /** Lets the PIECE with the PLACE come to 3, and no other one. */
  void bring(int number, int place) {
    boolean isOut = false;
    for (int steps = 0; steps < MOST_STEPS && net.frames() > 0; steps++) {
      int mark = net.frame(0, 2);
      boolean isIt = net.frame(0, 4) == number && net.frame(0, 6) == place;
      if (isIt && mark == TO_3) {
        net.step(1);
        return;
      }
      boolean lets = isIt && !isOut && (mark == TO_1_FROM_0 || mark == TO_1_FROM_2);
      if (lets) {
        open();
      }
      count(mark, net.frame(0, 4), net.frame(0, 6));
      net.step(1);
      if (lets) {
        close();
        isOut = true;
      }
    }
    throw new IllegalStateException("the PIECE did not come");
  }

  private void count(int mark, int number, int place) {
    if (mark == TO_1_FROM_0 || mark == TO_1_FROM_2 || mark == TO_2) {
      hops.merge(number + " " + place, 1, Integer::sum);
    }
  }

  /** The TTL of the PIECE, by the times that it was FORWARDED. */
  int ttl(int number, int place) {
    return TTL - hops.getOrDefault(number + " " + place, 0);
  }
}
