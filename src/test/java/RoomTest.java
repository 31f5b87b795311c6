import java.lang.management.ManagementFactory;

/** The dearest runs of 512 calls end, throw nothing, and stay far within the room of one run. */
public final class RoomTest {
  /**
   * The room of a run has 600,000 objects and 7.3 million fields and elements. An object takes 16
   * bytes at least, a field or element mostly 4: what takes less than this is within both.
   */
  private static final long MOST_BYTES = 600_000L * 16;

  private static final com.sun.management.ThreadMXBean THREADS =
      (com.sun.management.ThreadMXBean) ManagementFactory.getThreadMXBean();

  public static void main(String[] args) {
    Check check = new Check("RoomTest");
    runs(check, "hops", () -> {
      SeamarkNet net = Nets.loop(12, 20);
      for (int call = 0; call < 480; call++) {
        net.hops(0, 200);
      }
    });
    runs(check, "widest", () -> {
      SeamarkNet net = Nets.loop(100, 20);
      for (int call = 0; call < 480; call++) {
        net.widest(0, 200);
      }
    });
    runs(check, "a growing loop of TUNNELS", () -> growingLoop(check, 12, 12));
    runs(check, "a growing loop of TUNNELS, wide and narrow", () -> growingLoop(check, 200, 12));
    runs(check, "SENDS in many PIECES", () -> manyPieces(check));
    runs(check, "digests of many FRAMES", () -> {
      SeamarkNet net = Nets.loop(12, 12);
      for (int call = 0; call < 240; call++) {
        net.send(0, 200, false, 400, 40, false);
        net.digest();
      }
    });
    check.end();
  }

  private static void runs(Check check, String what, Runnable run) {
    long before = THREADS.getCurrentThreadAllocatedBytes();
    run.run();
    long bytes = THREADS.getCurrentThreadAllocatedBytes() - before;
    System.out.println("RoomTest: " + what + ": " + bytes + " bytes");
    check.same(what + " takes " + bytes + " bytes", bytes < MOST_BYTES, true);
  }

  private static void growingLoop(Check check, int width0, int width1) {
    SeamarkNet net = Nets.loop(width0, width1);
    net.send(0, 200, false, 40, 40, false);
    for (int call = 0; call < 490; call++) {
      net.step(60);
    }
    System.out.println("RoomTest: " + net.frames() + " FRAMES, " + net.packets() + " PACKETS");
    check.same("it goes on and on", net.frames() > 0, true);
    check.same("all STEPS are made", net.steps(), 490 * 60);
  }

  private static void manyPieces(Check check) {
    SeamarkNet net = Nets.loop(12, 12);
    net.send(0, 2, false, 1, 40, false);
    net.step(60);
    for (int call = 0; call < 490; call++) {
      net.send(0, 2, true, 400, 40, false);
    }
    check.same("50 FRAMES each", net.frames(), 490 * 50);
  }
}
