import java.util.ArrayList;
import java.util.List;
import java.util.Map;
import java.util.TreeMap;

/**
 * The document written down a second time, sentence by sentence and without a thought for room:
 * PACKETS are never changed but made anew, a trial is a copy of all, and GOING OUT calls itself.
 */
final class PlainNet {
  static final class Packet {
    final int kind;
    final int from;
    final int to;
    final int size;
    final int ttl;
    final int number;
    final int about;
    final boolean whole;
    final int place;
    final boolean more;
    final Packet in;

    Packet(int[] v, boolean whole, boolean more, Packet in) {
      kind = v[0];
      from = v[1];
      to = v[2];
      size = v[3];
      ttl = v[4];
      number = v[5];
      about = v[6];
      place = v[7];
      this.whole = whole;
      this.more = more;
      this.in = in;
    }

    Packet with(int newSize, int newTtl, int newPlace, boolean newMore) {
      int[] v = {kind, from, to, newSize, newTtl, number, about, newPlace};
      return new Packet(v, whole, newMore, in);
    }
  }

  record Port(int mark, int cable, int address, int length) {}

  record Route(int address, int length, int via) {}

  record Waiting(Packet packet, int hop, Port port) {}

  record Frame(int cable, int from, int to, int sort, int address, Packet packet) {}

  record Way(int port, int hop, int length) {}

  static final class Machine {
    boolean forwards;
    List<Port> ports = new ArrayList<>();
    List<Route> routes = new ArrayList<>();
    List<Integer> tunnels = new ArrayList<>();
    Map<Integer, Integer> known = new TreeMap<>();
    List<Waiting> waiting = new ArrayList<>();
    List<List<Packet>> heaps = new ArrayList<>();
    List<Packet> notes = new ArrayList<>();
  }

  final List<Integer> widths = new ArrayList<>();
  final List<Integer> carried = new ArrayList<>();
  final List<Machine> machines = new ArrayList<>();
  final List<Frame> frames = new ArrayList<>();
  int packets;
  int steps;
  int packetSteps;
  int gone;

  // ---- the net

  int addCable(int width) {
    argument(width >= 12 && width <= 200);
    state(widths.size() < 8);
    widths.add(width);
    carried.add(0);
    return widths.size() - 1;
  }

  int setWidth(int cable, int width) {
    bounds(cable >= 0 && cable < widths.size());
    argument(width >= 12 && width <= 200);
    return widths.set(cable, width);
  }

  int addMachine(boolean forwards) {
    state(machines.size() < 8);
    Machine machine = new Machine();
    machine.forwards = forwards;
    machines.add(machine);
    return machines.size() - 1;
  }

  int addPort(int machine, int cable, int address, int length) {
    Machine m = at(machine);
    bounds(cable >= 0 && cable < widths.size());
    argument(address >= 0 && address <= 255 && length >= 0 && length <= 8);
    state(m.ports.size() < 4 && owner(address) == null);
    Port port = new Port(4 * machine + m.ports.size(), cable, address, length);
    m.ports.add(port);
    return port.mark();
  }

  int addTunnel(int machine, int far) {
    Machine m = at(machine);
    argument(far >= 0 && far <= 255);
    state(m.tunnels.size() < 2);
    m.tunnels.add(far);
    return m.tunnels.size() - 1;
  }

  int addRoute(int machine, int address, int length, int via) {
    Machine m = at(machine);
    argument(address >= 0 && address <= 255 && length >= 0 && length <= 8);
    boolean isTunnel = via == -1 && m.tunnels.size() > 0 || via == -2 && m.tunnels.size() > 1;
    argument(via >= 0 && via <= 255 || isTunnel);
    state(m.routes.size() < 6);
    m.routes.add(new Route(address, length, via));
    return m.routes.size() - 1;
  }

  int dropRoute(int machine) {
    Machine m = at(machine);
    state(!m.routes.isEmpty());
    m.routes.remove(m.routes.size() - 1);
    return m.routes.size();
  }

  boolean setForwarding(int machine, boolean forwards) {
    Machine m = at(machine);
    boolean did = m.forwards;
    m.forwards = forwards;
    return did;
  }

  // ---- packets and steps

  int send(int machine, int to, boolean isAsk, int size, int ttl, boolean whole) {
    Machine m = at(machine);
    argument(to >= 0 && to <= 255 && size >= 0 && size <= 400 && ttl >= 1 && ttl <= 40);
    return launch(m, isAsk ? 1 : 0, to, size, ttl, whole);
  }

  int step(int count) {
    argument(count >= 1 && count <= 60);
    for (int i = 0; i < count && !frames.isEmpty(); i++) {
      oneStep();
    }
    return frames.size();
  }

  int forget(int machine) {
    Machine m = at(machine);
    int count = m.known.size();
    m.known.clear();
    return count;
  }

  int giveUp(int machine) {
    Machine m = at(machine);
    List<Waiting> all = m.waiting;
    m.waiting = new ArrayList<>();
    for (Waiting w : all) {
      complain(m, w.packet(), 4, 1);
    }
    return all.size();
  }

  // ---- what is asked

  int frame(int frame, int what) {
    bounds(frame >= 0 && frame < frames.size());
    argument(what >= 0 && what <= 7);
    Frame f = frames.get(frame);
    Packet p = f.packet();
    int[] parts = {
      f.cable(), f.from(), f.to(), f.sort(), p == null ? f.address() : p.number,
      p == null ? 0 : p.size, p == null ? 0 : p.place, p == null ? -1 : p.kind
    };
    return parts[what];
  }

  int knows(int machine, int address) {
    Machine m = at(machine);
    argument(address >= 0 && address <= 255);
    return m.known.getOrDefault(address, -1);
  }

  int waiting(int machine) {
    return at(machine).waiting.size();
  }

  int heaps(int machine) {
    return at(machine).heaps.size();
  }

  int noted(int machine) {
    return at(machine).notes.size();
  }

  int note(int machine, int back, int what) {
    Machine m = at(machine);
    bounds(back >= 0 && back <= 9 && back < m.notes.size());
    argument(what >= 0 && what <= 5);
    Packet p = m.notes.get(m.notes.size() - 1 - back);
    int[] parts = {p.kind, p.from, p.size, p.ttl, p.number, p.about};
    return parts[what];
  }

  int way(int machine, int to, int what) {
    Machine m = at(machine);
    argument(to >= 0 && to <= 255 && what >= 0 && what <= 2);
    Way way = wayTo(m, to);
    int[] parts = {way.port(), way.hop(), way.length()};
    return parts[what];
  }

  int carried(int cable) {
    bounds(cable >= 0 && cable < widths.size());
    return carried.get(cable);
  }

  double use() {
    return steps == 0 ? 0 : (double) packetSteps / (double) steps;
  }

  // ---- what would be

  int whoTells(int machine, int to, int ttl) {
    at(machine);
    argument(to >= 0 && to <= 255 && ttl >= 1 && ttl <= 40);
    Packet told = copy().firstTold(machine, to, 8, ttl, false);
    return told == null ? -1 : told.from;
  }

  int hops(int machine, int to) {
    at(machine);
    argument(to >= 0 && to <= 255);
    for (int ttl = 1; ttl <= 12; ttl++) {
      PlainNet net = copy();
      net.firstTold(machine, to, 8, ttl, false);
      for (Packet note : net.machines.get(machine).notes) {
        if (note.kind == 2) {
          return ttl;
        }
      }
    }
    return -1;
  }

  int widest(int machine, int to) {
    at(machine);
    argument(to >= 0 && to <= 255);
    PlainNet net = copy();
    int size = 196;
    for (int asks = 1; asks <= 6; asks++) {
      Packet told = net.firstTold(machine, to, size, 32, true);
      if (told != null && told.kind == 2) {
        return size;
      }
      if (told == null || told.kind != 5) {
        return -1;
      }
      size = told.about - 4;
      net = net.copy();
    }
    return -1;
  }

  long digest() {
    long d = 58062;
    int[] counts = {machines.size(), packets, steps, gone, frames.size()};
    for (int v : counts) {
      d = d * 31 + v;
    }
    for (int f = 0; f < frames.size(); f++) {
      for (int what = 0; what < 8; what++) {
        d = d * 31 + frame(f, what);
      }
    }
    for (int v : carried) {
      d = d * 31 + v;
    }
    for (int m = 0; m < machines.size(); m++) {
      d = ((d * 31 + waiting(m)) * 31 + heaps(m)) * 31 + noted(m);
      for (int back = 0; back < 3 && back < noted(m); back++) {
        for (int what = 0; what < 6; what++) {
          d = d * 31 + note(m, back, what);
        }
      }
      for (Machine other : machines) {
        for (Port port : other.ports) {
          d = d * 31 + knows(m, port.address());
        }
      }
    }
    return d;
  }

  /** The net as it is, without FRAMES, with nothing that WAITS or is KEPT, and nothing NOTED. */
  private PlainNet copy() {
    PlainNet net = new PlainNet();
    net.widths.addAll(widths);
    net.carried.addAll(carried);
    net.packets = packets;
    for (Machine m : machines) {
      Machine other = new Machine();
      other.forwards = m.forwards;
      other.ports.addAll(m.ports);
      other.routes.addAll(m.routes);
      other.tunnels.addAll(m.tunnels);
      other.known.putAll(m.known);
      net.machines.add(other);
    }
    return net;
  }

  private Packet firstTold(int machine, int to, int size, int ttl, boolean whole) {
    Machine m = machines.get(machine);
    int number = launch(m, 1, to, size, ttl, whole);
    for (int i = 0; i < 200 && !frames.isEmpty(); i++) {
      oneStep();
    }
    for (Packet note : m.notes) {
      if (note.kind == 2 && note.about == number || isComplaint(note)) {
        return note;
      }
    }
    return null;
  }

  // ---- terms

  private static boolean has(int address, int length, int d) {
    for (int bit = 0; bit < length; bit++) {
      int mask = 128 >> bit;
      if ((address & mask) != (d & mask)) {
        return false;
      }
    }
    return true;
  }

  private static Way wayTo(Machine m, int d) {
    for (int length = 8; length >= 0; length--) {
      for (int p = 0; p < m.ports.size(); p++) {
        Port port = m.ports.get(p);
        if (port.length() == length && has(port.address(), length, d)) {
          return new Way(p, d, length);
        }
      }
      for (Route route : m.routes) {
        if (route.length() == length && has(route.address(), length, d)) {
          return wayBy(m, route);
        }
      }
    }
    return new Way(-1, -1, -1);
  }

  private static Way wayBy(Machine m, Route route) {
    if (route.via() < 0) {
      return new Way(-2, -1 - route.via(), route.length());
    }
    for (int length = 8; length >= 0; length--) {
      for (int p = 0; p < m.ports.size(); p++) {
        Port port = m.ports.get(p);
        if (port.length() == length && has(port.address(), length, route.via())) {
          return new Way(p, route.via(), route.length());
        }
      }
    }
    return new Way(-1, -1, -1);
  }

  private static boolean owns(Machine m, int address) {
    for (Port port : m.ports) {
      if (port.address() == address) {
        return true;
      }
    }
    return false;
  }

  private Port owner(int address) {
    for (Machine m : machines) {
      for (Port port : m.ports) {
        if (port.address() == address) {
          return port;
        }
      }
    }
    return null;
  }

  private static boolean isComplaint(Packet p) {
    return p.kind == 3 || p.kind == 4 || p.kind == 5;
  }

  private static int fromFor(Machine m, int to) {
    if (owns(m, to)) {
      return to;
    }
    Way way = wayTo(m, to);
    if (way.port() == -2) {
      way = wayTo(m, m.tunnels.get(way.hop()));
    }
    return way.port() < 0 ? -1 : m.ports.get(way.port()).address();
  }

  private Packet create(int kind, int from, int to, int size, int ttl, int about, boolean whole,
      Packet in) {
    int[] v = {kind, from, to, size, ttl, packets, about, 0};
    packets++;
    return new Packet(v, whole, false, in);
  }

  private int launch(Machine m, int kind, int to, int size, int ttl, boolean whole) {
    int from = fromFor(m, to);
    if (from < 0) {
      return -1;
    }
    Packet p = create(kind, from, to, size, ttl, 0, whole, null);
    goOut(m, p);
    return p.number;
  }

  private void goOut(Machine m, Packet p) {
    if (owns(m, p.to)) {
      receive(m, p);
      return;
    }
    Way way = wayTo(m, p.to);
    if (way.port() == -1) {
      complain(m, p, 4, 0);
    } else if (way.port() == -2) {
      int far = m.tunnels.get(way.hop());
      if (owns(m, far) || wayTo(m, far).port() < 0) {
        complain(m, p, 4, 0);
      } else {
        goOut(m, create(6, fromFor(m, far), far, p.size + 4, 32, 0, false, p));
      }
    } else {
      goByPort(m, p, m.ports.get(way.port()), way.hop());
    }
  }

  private void goByPort(Machine m, Packet p, Port port, int hop) {
    int w = widths.get(port.cable());
    if (p.size + 4 <= w) {
      toHop(m, p, port, hop);
    } else if (p.whole) {
      complain(m, p, 5, w);
    } else {
      int part = (w - 4) / 4 * 4;
      int pieces = (p.size + part - 1) / part;
      for (int i = 0; i < pieces; i++) {
        boolean last = i == pieces - 1;
        int size = last ? p.size - i * part : part;
        toHop(m, p.with(size, p.ttl, p.place + i * part, last ? p.more : true), port, hop);
      }
    }
  }

  private void toHop(Machine m, Packet p, Port port, int hop) {
    if (m.known.containsKey(hop)) {
      frames.add(new Frame(port.cable(), port.mark(), m.known.get(hop), 0, -1, p));
      return;
    }
    if (m.waiting.size() == 6) {
      m.waiting.remove(0);
      gone++;
    }
    boolean isOnly = true;
    for (Waiting w : m.waiting) {
      isOnly = isOnly && w.hop() != hop;
    }
    m.waiting.add(new Waiting(p, hop, port));
    if (isOnly) {
      frames.add(new Frame(port.cable(), port.mark(), -1, 1, hop, null));
    }
  }

  private void complain(Machine m, Packet p, int kind, int about) {
    gone++;
    if (isComplaint(p) || p.place != 0) {
      return;
    }
    int from = fromFor(m, p.from);
    if (from >= 0) {
      goOut(m, create(kind, from, p.from, 0, 32, about, true, null));
    }
  }

  private void oneStep() {
    Frame f = frames.remove(0);
    steps++;
    carried.set(f.cable(), carried.get(f.cable()) + 1);
    if (f.sort() == 1) {
      for (Machine m : machines) {
        for (Port port : new ArrayList<>(m.ports)) {
          if (port.cable() == f.cable() && port.mark() != f.from()
              && port.address() == f.address()) {
            m.known.put(machines.get(f.from() / 4).ports.get(f.from() % 4).address(), f.from());
            frames.add(new Frame(port.cable(), port.mark(), f.from(), 2, f.address(), null));
          }
        }
      }
      return;
    }
    Machine m = machines.get(f.to() / 4);
    if (f.sort() == 2) {
      m.known.put(f.address(), f.from());
      List<Waiting> stay = new ArrayList<>();
      for (Waiting w : m.waiting) {
        if (w.hop() == f.address()) {
          toHop(m, w.packet(), w.port(), w.hop());
        } else {
          stay.add(w);
        }
      }
      m.waiting = stay;
      return;
    }
    packetSteps++;
    treat(m, f.packet());
  }

  private void treat(Machine m, Packet p) {
    if (owns(m, p.to)) {
      receive(m, p);
    } else if (!m.forwards) {
      gone++;
    } else if (p.ttl == 1) {
      complain(m, p, 3, 0);
    } else {
      goOut(m, p.with(p.size, p.ttl - 1, p.place, p.more));
    }
  }

  private void receive(Machine m, Packet p) {
    Packet whole = p.place > 0 || p.more ? keep(m, p) : p;
    if (whole == null) {
      return;
    }
    if (whole.kind == 1) {
      goOut(m, create(2, whole.to, whole.from, whole.size, 32, whole.number, false, null));
    } else if (whole.kind != 6) {
      m.notes.add(whole);
    } else if (m.tunnels.contains(whole.from)) {
      treat(m, whole.in);
    } else {
      gone++;
    }
  }

  private Packet keep(Machine m, Packet p) {
    List<Packet> heap = null;
    for (List<Packet> h : m.heaps) {
      if (h.get(0).from == p.from && h.get(0).number == p.number) {
        heap = h;
      }
    }
    if (heap == null) {
      if (m.heaps.size() == 3) {
        m.heaps.remove(0);
        gone++;
      }
      heap = new ArrayList<>();
      m.heaps.add(heap);
    }
    for (Packet other : heap) {
      if (other.place == p.place) {
        gone++;
        return null;
      }
    }
    heap.add(p);
    int end = endOf(heap);
    if (end < 0) {
      return null;
    }
    m.heaps.remove(heap);
    return p.with(end, p.ttl, 0, false);
  }

  private static int endOf(List<Packet> heap) {
    int end = 0;
    boolean found = true;
    while (found) {
      found = false;
      for (Packet p : heap) {
        if (p.place == end) {
          found = true;
          end += p.size;
          if (!p.more) {
            return end;
          }
          break;
        }
      }
    }
    return -1;
  }

  private Machine at(int machine) {
    bounds(machine >= 0 && machine < machines.size());
    return machines.get(machine);
  }

  private static void bounds(boolean holds) {
    if (!holds) {
      throw new IndexOutOfBoundsException("due");
    }
  }

  private static void argument(boolean holds) {
    if (!holds) {
      throw new IllegalArgumentException("due");
    }
  }

  private static void state(boolean holds) {
    if (!holds) {
      throw new IllegalStateException("due");
    }
  }
}
