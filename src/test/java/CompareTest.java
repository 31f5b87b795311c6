import java.util.ArrayList;
import java.util.List;
import java.util.Random;

/**
 * Random runs of up to 512 calls, each call made on a SeamarkNet and on a PlainNet: the answers,
 * the exceptions and the digests are the same. The runs are the same each time.
 */
public final class CompareTest {
  private static final int RUNS = 1500;
  private static final int CALLS = 512;

  private final Check check;
  private final Random random;
  private final SeamarkNet net = new SeamarkNet();
  private final PlainNet plain = new PlainNet();
  private final List<Integer> addresses = new ArrayList<>();
  private final boolean isOrderly;
  private final String run;
  private int calls;

  /** What all runs together came upon, so that a tame generator does not go unseen. */
  private static final int[] met = new int[16];
  private static final String[] MET = {
    "DATA noted", "ASK noted", "ANSWER noted", "LOST noted", "NO WAY noted", "TOO WIDE noted",
    "WRAPPED under way", "heaps kept", "three heaps", "six wait", "hops answered", "hops above 1",
    "widest below 196", "a WRAPPED PIECE", "whoTells told", "not come to be"
  };

  private CompareTest(Check check, int seed) {
    this.check = check;
    random = new Random(seed);
    isOrderly = random.nextInt(3) > 0;
    run = "run " + seed + ", call ";
  }

  public static void main(String[] args) {
    Check check = new Check("CompareTest");
    for (int seed = 1; seed <= RUNS && !check.isWrong(); seed++) {
      new CompareTest(check, seed).play();
    }
    for (int at = 0; at < met.length; at++) {
      if (at != 1) {
        check.same("met often: " + MET[at] + " (" + met[at] + ")", met[at] > 200, true);
      }
    }
    check.same(MET[1], met[1], 0);
    check.end();
  }

  private void play() {
    if (isOrderly) {
      layOrderly();
    } else {
      layWild();
    }
    while (calls < CALLS - 1 && !check.isWrong()) {
      oneCall();
    }
  }

  // ---- laying a net

  /** CABLES with NETS of their own, MACHINES between them, ROUTES that mostly lead somewhere. */
  private void layOrderly() {
    int cables = 1 + random.nextInt(5);
    int machines = 2 + random.nextInt(6);
    for (int c = 0; c < cables; c++) {
      addCable(width());
    }
    for (int m = 0; m < machines; m++) {
      addMachine(random.nextInt(8) > 0);
      int ports = 1 + random.nextInt(3);
      for (int p = 0; p < ports; p++) {
        int cable = p == 0 && m > 0 ? random.nextInt(Math.min(cables, m)) : random.nextInt(cables);
        addPort(m, cable, 32 * cable + 1 + random.nextInt(30), 3);
      }
    }
    for (int m = 0; m < machines; m++) {
      int tunnels = random.nextInt(3);
      for (int t = 0; t < tunnels; t++) {
        addTunnel(m, someAddress());
      }
      int routes = 1 + random.nextInt(4);
      for (int r = 0; r < routes; r++) {
        int length = random.nextInt(4) == 0 ? 0 : 3 + random.nextInt(3);
        addRoute(m, someAddress(), length, someVia(m));
      }
    }
  }

  /** NETS that overlap, on few ADDRESSES. */
  private void layWild() {
    int cables = 1 + random.nextInt(3);
    int machines = 1 + random.nextInt(4);
    for (int c = 0; c < cables; c++) {
      addCable(width());
    }
    for (int m = 0; m < machines; m++) {
      addMachine(random.nextInt(5) > 0);
      int ports = random.nextInt(5);
      for (int p = 0; p < ports; p++) {
        addPort(m, random.nextInt(cables), random.nextInt(16) * 17, random.nextInt(9));
      }
    }
    for (int m = 0; m < machines; m++) {
      addTunnel(m, someAddress());
      for (int r = 0; r < 3; r++) {
        addRoute(m, random.nextInt(256), random.nextInt(9), someVia(m));
      }
    }
  }

  // ---- calls

  private void oneCall() {
    int kind = random.nextInt(100);
    int m = someMachine();
    if (kind < 25) {
      send(m);
    } else if (kind < 50) {
      int steps = random.nextInt(3) == 0 ? 60 : 1 + random.nextInt(8);
      both("step " + steps, () -> net.step(steps), () -> plain.step(steps));
    } else if (kind < 62) {
      ask(m);
    } else if (kind < 72) {
      change(m);
    } else if (kind < 82) {
      would(m);
    } else if (kind < 84) {
      wrong();
    } else {
      both("digest", net::digest, plain::digest);
      meet();
    }
  }

  private void send(int m) {
    int to = someAddress();
    boolean isAsk = random.nextBoolean();
    int size = random.nextInt(3) == 0 ? random.nextInt(401) : random.nextInt(60);
    int ttl = random.nextInt(3) == 0 ? 1 + random.nextInt(40) : 1 + random.nextInt(6);
    boolean isWhole = random.nextInt(3) == 0;
    Object got = both("send " + m + " " + to + " " + isAsk + " " + size + " " + ttl + " " + isWhole,
        () -> net.send(m, to, isAsk, size, ttl, isWhole),
        () -> plain.send(m, to, isAsk, size, ttl, isWhole));
    count(15, got.equals(-1));
  }

  private void ask(int m) {
    int address = random.nextBoolean() ? someAddress() : random.nextInt(256);
    int what = random.nextInt(9) - 1;
    int back = random.nextInt(12) - 1;
    int frame = random.nextInt(Math.max(1, plain.frames.size() + 2)) - 1;
    int cable = random.nextInt(9) - 1;
    switch (random.nextInt(11)) {
      case 0 -> both("machines", net::machines, () -> plain.machines.size());
      case 1 -> both("packets", net::packets, () -> plain.packets);
      case 2 -> both("steps", net::steps, () -> plain.steps);
      case 3 -> both("gone", net::gone, () -> plain.gone);
      case 4 -> both("frames", net::frames, () -> plain.frames.size());
      case 5 -> both("frame " + frame + " " + what, () -> net.frame(frame, what),
          () -> plain.frame(frame, what));
      case 6 -> both("knows " + m + " " + address, () -> net.knows(m, address),
          () -> plain.knows(m, address));
      case 7 -> askCounts(m);
      case 8 -> both("note " + m + " " + back + " " + what, () -> net.note(m, back, what),
          () -> plain.note(m, back, what));
      case 9 -> both("way " + m + " " + address + " " + what, () -> net.way(m, address, what),
          () -> plain.way(m, address, what));
      default -> {
        both("carried " + cable, () -> net.carried(cable), () -> plain.carried(cable));
        both("use", net::use, plain::use);
      }
    }
  }

  private void askCounts(int m) {
    both("waiting " + m, () -> net.waiting(m), () -> plain.waiting(m));
    both("heaps " + m, () -> net.heaps(m), () -> plain.heaps(m));
    both("noted " + m, () -> net.noted(m), () -> plain.noted(m));
  }

  private void change(int m) {
    boolean isForwarding = random.nextInt(4) > 0;
    switch (random.nextInt(12)) {
      case 0, 1 -> both("forget " + m, () -> net.forget(m), () -> plain.forget(m));
      case 2, 3 -> both("giveUp " + m, () -> net.giveUp(m), () -> plain.giveUp(m));
      case 4, 5 -> {
        int cable = random.nextInt(Math.max(1, plain.widths.size()));
        int width = width();
        both("setWidth " + cable + " " + width, () -> net.setWidth(cable, width),
            () -> plain.setWidth(cable, width));
      }
      case 6 -> both("setForwarding " + m + " " + isForwarding,
          () -> net.setForwarding(m, isForwarding), () -> plain.setForwarding(m, isForwarding));
      case 7 -> both("dropRoute " + m, () -> net.dropRoute(m), () -> plain.dropRoute(m));
      case 8, 9 -> addRoute(m, someAddress(), random.nextInt(9), someVia(m));
      case 10 -> addPort(m, random.nextInt(9) - 1, random.nextInt(256), random.nextInt(9));
      default -> {
        switch (random.nextInt(4)) {
          case 0 -> addTunnel(m, someAddress());
          case 1 -> addMachine(true);
          default -> addCable(width());
        }
      }
    }
  }

  private void would(int m) {
    int to = someAddress();
    int ttl = 1 + random.nextInt(8);
    Object told = both("whoTells " + m + " " + to + " " + ttl, () -> net.whoTells(m, to, ttl),
        () -> plain.whoTells(m, to, ttl));
    count(14, isAbove(told, -1));
    if (random.nextInt(3) == 0) {
      Object hops = both("hops " + m + " " + to, () -> net.hops(m, to), () -> plain.hops(m, to));
      count(10, isAbove(hops, 0));
      count(11, isAbove(hops, 1));
      Object widest = both("widest " + m + " " + to, () -> net.widest(m, to),
          () -> plain.widest(m, to));
      count(12, isAbove(widest, -1) && !isAbove(widest, 195));
    }
  }

  /** Calls with one argument that is beside what is promised. */
  private void wrong() {
    int[] off = {-1, 256, 9, Integer.MIN_VALUE, Integer.MAX_VALUE, -7, 401, 61};
    int v = off[random.nextInt(off.length)];
    int m = someMachine();
    switch (random.nextInt(12)) {
      case 0 -> addPort(v, 0, 3, 3);
      case 1 -> addPort(m, 0, v, 3);
      case 2 -> addPort(m, 0, 200, v);
      case 3 -> addRoute(m, 3, 3, v);
      case 4 -> addTunnel(v, v);
      case 5 -> both("send wrong", () -> net.send(v, 1, true, 1, 1, true),
          () -> plain.send(v, 1, true, 1, 1, true));
      case 6 -> both("step wrong " + v, () -> net.step(v), () -> plain.step(v));
      case 7 -> both("whoTells wrong", () -> net.whoTells(m, v, v), () -> plain.whoTells(m, v, v));
      case 8 -> both("hops wrong", () -> net.hops(v, 1), () -> plain.hops(v, 1));
      case 9 -> both("widest wrong", () -> net.widest(v, v), () -> plain.widest(v, v));
      case 10 -> both("note wrong", () -> net.note(m, v, v), () -> plain.note(m, v, v));
      default -> both("way wrong", () -> net.way(m, v, v), () -> plain.way(m, v, v));
    }
  }

  private void addCable(int width) {
    both("addCable " + width, () -> net.addCable(width), () -> plain.addCable(width));
  }

  private void addMachine(boolean isForwarding) {
    both("addMachine", () -> net.addMachine(isForwarding), () -> plain.addMachine(isForwarding));
  }

  private void addPort(int m, int cable, int address, int length) {
    both("addPort " + m + " " + cable + " " + address + " " + length,
        () -> net.addPort(m, cable, address, length),
        () -> plain.addPort(m, cable, address, length));
    addresses.add(address & 255);
  }

  private void addTunnel(int m, int far) {
    both("addTunnel " + m + " " + far, () -> net.addTunnel(m, far), () -> plain.addTunnel(m, far));
  }

  private void addRoute(int m, int address, int length, int via) {
    both("addRoute " + m + " " + address + " " + length + " " + via,
        () -> net.addRoute(m, address, length, via),
        () -> plain.addRoute(m, address, length, via));
  }

  private Object both(String what, Check.Call call, Check.Call due) {
    calls++;
    Object got = Check.answerOf(call);
    Object want = Check.answerOf(due);
    check.same(run + calls + ": " + what, got, want);
    check.same(run + calls + ": digest behind " + what, net.digest(), plain.digest());
    return got;
  }

  // ---- what to take

  private int someMachine() {
    int count = plain.machines.size();
    return count == 0 || random.nextInt(60) == 0 ? random.nextInt(9) - 1 : random.nextInt(count);
  }

  private int someAddress() {
    if (addresses.isEmpty() || random.nextInt(8) == 0) {
      return random.nextInt(256);
    }
    return addresses.get(random.nextInt(addresses.size()));
  }

  /** An ADDRESS on a CABLE of the MACHINE mostly, or a TUNNEL. */
  private int someVia(int m) {
    int kind = random.nextInt(10);
    if (kind < 3) {
      return -1 - random.nextInt(2);
    }
    if (kind == 3 || m < 0 || m >= plain.machines.size()) {
      return someAddress();
    }
    List<Integer> near = new ArrayList<>();
    for (PlainNet.Port mine : plain.machines.get(m).ports) {
      for (PlainNet.Machine other : plain.machines) {
        for (PlainNet.Port port : other.ports) {
          if (port.cable() == mine.cable() && port.mark() != mine.mark()) {
            near.add(port.address());
          }
        }
      }
    }
    return near.isEmpty() ? someAddress() : near.get(random.nextInt(near.size()));
  }

  private int width() {
    int kind = random.nextInt(4);
    if (kind == 0) {
      return 12 + random.nextInt(10);
    }
    return kind == 1 ? 20 + random.nextInt(40) : 12 + random.nextInt(189);
  }

  // ---- what was met

  private void meet() {
    for (PlainNet.Machine m : plain.machines) {
      for (PlainNet.Packet note : m.notes) {
        count(note.kind, true);
      }
      count(7, m.heaps.size() > 0);
      count(8, m.heaps.size() == 3);
      count(9, m.waiting.size() == 6);
    }
    for (PlainNet.Frame frame : plain.frames) {
      PlainNet.Packet p = frame.packet();
      count(6, p != null && p.kind == 6);
      count(13, p != null && p.kind == 6 && p.place > 0);
    }
  }

  private static void count(int what, boolean isSo) {
    if (isSo) {
      met[what]++;
    }
  }

  private static boolean isAbove(Object answer, int bound) {
    return answer instanceof Integer && (Integer) answer > bound;
  }
}
