import java.util.Arrays;

/**
 * A net of machines.
 *
 * <p>Words in capitals (MACHINE, WAY, GO OUT, ..) are those of the document. A method that speaks of
 * "the one that GOES OUT next" returns it instead of sending it on itself: all that a PACKET brings
 * about in a call is one chain, and so no method here calls itself.
 */
public final class SeamarkNet {
  private static final int NONE = -1;
  private static final int BY_TUNNEL = -2;

  private static final int MOST_CABLES = 8;
  private static final int LEAST_WIDTH = 12;
  private static final int MOST_WIDTH = 200;
  private static final int MOST_MACHINES = 8;
  private static final int MOST_PORTS = 4;
  private static final int MOST_ROUTES = 6;
  private static final int MOST_TUNNELS = 2;
  private static final int ADDRESSES = 256;
  private static final int BITS = 8;
  private static final int MOST_SIZE = 400;
  private static final int MOST_TTL = 40;
  private static final int MOST_STEPS = 60;

  private static final int DATA = 0;
  private static final int ASK = 1;
  private static final int ANSWER = 2;
  private static final int LOST = 3;
  private static final int NO_WAY = 4;
  private static final int TOO_WIDE = 5;
  private static final int WRAPPED = 6;

  private static final int WITH_PACKET = 0;
  private static final int QUESTION = 1;
  private static final int REPLY = 2;
  private static final int FRAME_PARTS = 8;

  private static final int HEAD = 4;
  private static final int GRAIN = 4;
  private static final int NEW_TTL = 32;
  private static final int MOST_WAITING = 6;
  private static final int MOST_HEAPS = 3;
  private static final int NOTES_TOLD = 10;
  private static final int NOTE_PARTS = 6;
  private static final int WAY_PARTS = 3;

  private static final int TRIAL_STEPS = 200;
  private static final int TRIAL_SIZE = 8;
  private static final int TRIAL_MOST_TTL = 12;
  private static final int TRIAL_WIDEST = 196;
  private static final int TRIAL_ASKS = 6;

  private static final long DIGEST_START = 58062L;
  private static final int DIGEST_NOTES = 3;

  /** Far above the length of any chain that 512 calls can lead to. */
  private static final int FAR_ABOVE = 1000000;

  private final Plan plan;
  private final Traffic now;
  private final Trial trial;

  public SeamarkNet() {
    plan = new Plan();
    now = new Traffic(plan);
    trial = new Trial(plan);
  }

  // ---- the net

  public int addCable(int width) throws IllegalArgumentException, IllegalStateException {
    needWidth(width);
    int cable = plan.putCable(width);
    if (cable < 0) {
      throw new IllegalStateException("there are 8 cables");
    }
    return cable;
  }

  public int setWidth(int cable, int width)
      throws IndexOutOfBoundsException, IllegalArgumentException {
    needCable(cable);
    needWidth(width);
    return plan.changeWidth(cable, width);
  }

  public int addMachine(boolean isForwarding) throws IllegalStateException {
    int machine = plan.putMachine(isForwarding);
    if (machine < 0) {
      throw new IllegalStateException("there are 8 machines");
    }
    return machine;
  }

  public int addPort(int machine, int cable, int address, int length)
      throws IndexOutOfBoundsException, IllegalArgumentException, IllegalStateException {
    Machine at = hostOf(machine).machine;
    needCable(cable);
    needAddress(address);
    needLength(length);
    Port port = plan.putPort(at, cable, address, length);
    if (port == null) {
      throw new IllegalStateException("the machine has 4 ports, or a port has this address");
    }
    return port.mark;
  }

  public int addTunnel(int machine, int far)
      throws IndexOutOfBoundsException, IllegalArgumentException, IllegalStateException {
    Machine at = hostOf(machine).machine;
    needAddress(far);
    int tunnel = at.putTunnel(far);
    if (tunnel < 0) {
      throw new IllegalStateException("the machine has 2 tunnels");
    }
    return tunnel;
  }

  public int addRoute(int machine, int address, int length, int via)
      throws IndexOutOfBoundsException, IllegalArgumentException, IllegalStateException {
    Machine at = hostOf(machine).machine;
    needAddress(address);
    needLength(length);
    if (!at.mayLeadVia(via)) {
      throw new IllegalArgumentException("via is neither an address nor a tunnel of the machine");
    }
    int route = at.putRoute(address, length, via);
    if (route < 0) {
      throw new IllegalStateException("the machine has 6 routes");
    }
    return route;
  }

  public int dropRoute(int machine) throws IndexOutOfBoundsException, IllegalStateException {
    int left = hostOf(machine).machine.takeRoute();
    if (left < 0) {
      throw new IllegalStateException("the machine has no route");
    }
    return left;
  }

  public boolean setForwarding(int machine, boolean isForwarding)
      throws IndexOutOfBoundsException {
    Machine at = hostOf(machine).machine;
    boolean did = at.isForwarding;
    at.isForwarding = isForwarding;
    return did;
  }

  // ---- packets and steps

  public int send(int machine, int to, boolean isAsk, int size, int ttl, boolean isWhole)
      throws IndexOutOfBoundsException, IllegalArgumentException {
    Host host = hostOf(machine);
    needAddress(to);
    if (size < 0 || size > MOST_SIZE) {
      throw new IllegalArgumentException("size is not 0 to 400");
    }
    needTtl(ttl);
    return now.launch(host, isAsk ? ASK : DATA, to, size, ttl, isWhole);
  }

  public int step(int steps) throws IllegalArgumentException {
    if (steps < 1 || steps > MOST_STEPS) {
      throw new IllegalArgumentException("steps is not 1 to 60");
    }
    for (int made = 0; made < steps && now.row.length > 0; made++) {
      now.deliverNext();
    }
    return now.row.length;
  }

  public int forget(int machine) throws IndexOutOfBoundsException {
    return hostOf(machine).clearKnown();
  }

  public int giveUp(int machine) throws IndexOutOfBoundsException {
    return now.complainOfWaiting(hostOf(machine));
  }

  // ---- what is asked

  public int machines() {
    return plan.machineCount;
  }

  public int packets() {
    return now.packetCount;
  }

  public int steps() {
    return now.stepCount;
  }

  public int gone() {
    return now.goneInAll();
  }

  public int frames() {
    return now.row.length;
  }

  public int frame(int frame, int what)
      throws IndexOutOfBoundsException, IllegalArgumentException {
    Frame found = now.row.find(frame);
    if (found == null) {
      throw new IndexOutOfBoundsException("no such frame");
    }
    needPart(what, FRAME_PARTS);
    return found.part(what);
  }

  public int knows(int machine, int address)
      throws IndexOutOfBoundsException, IllegalArgumentException {
    Host host = hostOf(machine);
    needAddress(address);
    return host.knownMark(address);
  }

  public int waiting(int machine) throws IndexOutOfBoundsException {
    return hostOf(machine).waitingCount;
  }

  public int heaps(int machine) throws IndexOutOfBoundsException {
    return hostOf(machine).heapCount;
  }

  public int noted(int machine) throws IndexOutOfBoundsException {
    return hostOf(machine).noteCount;
  }

  public int note(int machine, int back, int what)
      throws IndexOutOfBoundsException, IllegalArgumentException {
    Host host = hostOf(machine);
    if (!host.isTold(back)) {
      throw new IndexOutOfBoundsException("not so many were noted, or back is not 0 to 9");
    }
    needPart(what, NOTE_PARTS);
    return host.notePart(back, what);
  }

  public int way(int machine, int to, int what)
      throws IndexOutOfBoundsException, IllegalArgumentException {
    Machine at = hostOf(machine).machine;
    needAddress(to);
    needPart(what, WAY_PARTS);
    if (what == 0) {
      return at.portTo(to);
    }
    return what == 1 ? at.hopTo(to) : at.lengthTo(to);
  }

  public int carried(int cable) throws IndexOutOfBoundsException {
    needCable(cable);
    return now.carriedOn(cable);
  }

  public double use() {
    if (now.stepCount == 0) {
      return 0.0;
    }
    return (double) now.packetSteps / now.stepCount;
  }

  // ---- what would be (nothing is changed)

  public int whoTells(int machine, int to, int ttl)
      throws IndexOutOfBoundsException, IllegalArgumentException {
    hostOf(machine);
    needAddress(to);
    needTtl(ttl);
    trial.begin(now);
    trial.ask(machine, to, TRIAL_SIZE, ttl, false);
    return trial.toldFrom;
  }

  public int hops(int machine, int to)
      throws IndexOutOfBoundsException, IllegalArgumentException {
    hostOf(machine);
    needAddress(to);
    for (int ttl = 1; ttl <= TRIAL_MOST_TTL; ttl++) {
      trial.begin(now);
      trial.ask(machine, to, TRIAL_SIZE, ttl, false);
      if (trial.isAnswered) {
        return ttl;
      }
    }
    return NONE;
  }

  public int widest(int machine, int to)
      throws IndexOutOfBoundsException, IllegalArgumentException {
    hostOf(machine);
    needAddress(to);
    trial.begin(now);
    int size = TRIAL_WIDEST;
    for (int asks = 0; asks < TRIAL_ASKS; asks++) {
      trial.ask(machine, to, size, NEW_TTL, true);
      if (trial.toldKind == ANSWER) {
        return size;
      }
      if (trial.toldKind != TOO_WIDE) {
        return NONE;
      }
      size = trial.toldAbout - HEAD;
    }
    return NONE;
  }

  public long digest() {
    long d = DIGEST_START;
    d = d * 31 + plan.machineCount;
    d = d * 31 + now.packetCount;
    d = d * 31 + now.stepCount;
    d = d * 31 + now.goneInAll();
    d = d * 31 + now.row.length;
    for (Frame frame = now.row.first; frame != null; frame = frame.next) {
      for (int what = 0; what < FRAME_PARTS; what++) {
        d = d * 31 + frame.part(what);
      }
    }
    for (int cable = 0; cable < plan.cableCount; cable++) {
      d = d * 31 + now.carriedOn(cable);
    }
    for (int machine = 0; machine < plan.machineCount; machine++) {
      d = digestHost(d, hostOf(machine));
    }
    return d;
  }

  private long digestHost(long start, Host host) {
    long d = start;
    d = d * 31 + host.waitingCount;
    d = d * 31 + host.heapCount;
    d = d * 31 + host.noteCount;
    for (int back = 0; back < DIGEST_NOTES && host.isTold(back); back++) {
      for (int what = 0; what < NOTE_PARTS; what++) {
        d = d * 31 + host.notePart(back, what);
      }
    }
    for (int mark = 0; mark < MOST_MACHINES * MOST_PORTS; mark++) {
      Port port = plan.portWithMark(mark);
      if (port != null) {
        d = d * 31 + host.knownMark(port.address);
      }
    }
    return d;
  }

  private Host hostOf(int machine) throws IndexOutOfBoundsException {
    Host host = machine < plan.machineCount ? now.host(machine) : null;
    if (host == null) {
      throw new IndexOutOfBoundsException("no such machine");
    }
    return host;
  }

  private void needCable(int cable) throws IndexOutOfBoundsException {
    if (cable < 0 || cable >= plan.cableCount) {
      throw new IndexOutOfBoundsException("no such cable");
    }
  }

  private static void needWidth(int width) throws IllegalArgumentException {
    if (width < LEAST_WIDTH || width > MOST_WIDTH) {
      throw new IllegalArgumentException("width is not 12 to 200");
    }
  }

  private static void needAddress(int address) throws IllegalArgumentException {
    if (address < 0 || address >= ADDRESSES) {
      throw new IllegalArgumentException("an address is not 0 to 255");
    }
  }

  private static void needLength(int length) throws IllegalArgumentException {
    if (length < 0 || length > BITS) {
      throw new IllegalArgumentException("length is not 0 to 8");
    }
  }

  private static void needTtl(int ttl) throws IllegalArgumentException {
    if (ttl < 1 || ttl > MOST_TTL) {
      throw new IllegalArgumentException("ttl is not 1 to 40");
    }
  }

  private static void needPart(int what, int parts) throws IllegalArgumentException {
    if (what < 0 || what >= parts) {
      throw new IllegalArgumentException("what names no part");
    }
  }

  /** A PORT of a MACHINE. */
  private static final class Port {
    final int mark;
    final int cable;
    final int address;
    final int length;

    Port(int mark, int cable, int address, int length) {
      this.mark = mark;
      this.cable = cable;
      this.address = address;
      this.length = length;
    }
  }

  /** What is laid down of a MACHINE: its PORTS, ROUTES and TUNNELS, and the WAYS that follow. */
  private static final class Machine {
    final int number;
    boolean isForwarding;
    private final Port[] ports = new Port[MOST_PORTS];
    private int portCount;
    private final int[] routeAddress = new int[MOST_ROUTES];
    private final int[] routeLength = new int[MOST_ROUTES];
    private final int[] routeVia = new int[MOST_ROUTES];
    private int routeCount;
    private final int[] tunnelFar = new int[MOST_TUNNELS];
    private int tunnelCount;

    // The WAY to each ADDRESS: PACKETS ask for it far more often than PORTS and ROUTES change.
    private final int[] wayPort = new int[ADDRESSES];
    private final int[] wayHop = new int[ADDRESSES];
    private final int[] wayLength = new int[ADDRESSES];

    Machine(int number) {
      this.number = number;
      Arrays.fill(wayPort, NONE);
      Arrays.fill(wayHop, NONE);
      Arrays.fill(wayLength, NONE);
    }

    /** Returns null if there are 4 already. */
    Port addNextPort(int cable, int address, int length) {
      if (portCount >= MOST_PORTS) {
        return null;
      }
      Port port = new Port(MOST_PORTS * number + portCount, cable, address, length);
      ports[portCount] = port;
      portCount++;
      layWays();
      return port;
    }

    /** Returns its number, or NONE if there are 2 already. */
    int putTunnel(int far) {
      if (tunnelCount >= MOST_TUNNELS) {
        return NONE;
      }
      tunnelFar[tunnelCount] = far;
      tunnelCount++;
      return tunnelCount - 1;
    }

    /** Returns its number, or NONE if there are 6 already. */
    int putRoute(int address, int length, int via) {
      if (routeCount >= MOST_ROUTES) {
        return NONE;
      }
      routeAddress[routeCount] = address;
      routeLength[routeCount] = length;
      routeVia[routeCount] = via;
      routeCount++;
      layWays();
      return routeCount - 1;
    }

    /** Returns how many ROUTES are left, or NONE if there was none. */
    int takeRoute() {
      if (routeCount == 0) {
        return NONE;
      }
      routeCount--;
      layWays();
      return routeCount;
    }

    boolean mayLeadVia(int via) {
      return via >= 0 ? via < ADDRESSES : -1 - via < tunnelCount;
    }

    Port port(int index) {
      return index >= 0 && index < MOST_PORTS ? ports[index] : null;
    }

    boolean owns(int address) {
      for (int index = 0; index < MOST_PORTS; index++) {
        Port port = ports[index];
        if (port != null && port.address == address) {
          return true;
        }
      }
      return false;
    }

    boolean hasTunnelTo(int far) {
      for (int tunnel = 0; tunnel < tunnelCount; tunnel++) {
        if (tunnelFar[tunnel] == far) {
          return true;
        }
      }
      return false;
    }

    int farOf(int tunnel) {
      return tunnel >= 0 && tunnel < tunnelCount ? tunnelFar[tunnel] : NONE;
    }

    /** The PORT by which the WAY leads, NONE without a WAY, BY_TUNNEL by a TUNNEL. */
    int portTo(int address) {
      return address >= 0 && address < ADDRESSES ? wayPort[address] : NONE;
    }

    /** The HOP of the WAY, or its TUNNEL, or NONE. */
    int hopTo(int address) {
      return address >= 0 && address < ADDRESSES ? wayHop[address] : NONE;
    }

    /** The l of the NET by which the WAY is, or NONE. */
    int lengthTo(int address) {
      return address >= 0 && address < ADDRESSES ? wayLength[address] : NONE;
    }

    private void layWays() {
      for (int address = 0; address < ADDRESSES; address++) {
        int index = portWithNetOf(address);
        Port port = port(index);
        int length = port == null ? NONE : port.length;
        int route = routeFor(address);
        if (route >= 0 && routeLength[route] > length) {
          layByRoute(address, route);
        } else {
          layWay(address, index, port == null ? NONE : address, length);
        }
      }
    }

    private void layByRoute(int address, int route) {
      int via = routeVia[route];
      if (via < 0) {
        layWay(address, BY_TUNNEL, -1 - via, routeLength[route]);
        return;
      }
      int index = portWithNetOf(via);
      if (index < 0) {
        layWay(address, NONE, NONE, NONE);
      } else {
        layWay(address, index, via, routeLength[route]);
      }
    }

    private void layWay(int address, int port, int hop, int length) {
      wayPort[address] = port;
      wayHop[address] = hop;
      wayLength[address] = length;
    }

    /** The PORT whose NET has the ADDRESS with the greatest l, the first of such, or NONE. */
    private int portWithNetOf(int address) {
      int best = NONE;
      int bestLength = NONE;
      for (int index = 0; index < MOST_PORTS; index++) {
        Port port = ports[index];
        if (port != null && port.length > bestLength
            && netHas(port.address, port.length, address)) {
          best = index;
          bestLength = port.length;
        }
      }
      return best;
    }

    /** The ROUTE whose NET has the ADDRESS with the greatest l, the first of such, or NONE. */
    private int routeFor(int address) {
      int best = NONE;
      int bestLength = NONE;
      for (int route = 0; route < routeCount; route++) {
        if (routeLength[route] > bestLength
            && netHas(routeAddress[route], routeLength[route], address)) {
          best = route;
          bestLength = routeLength[route];
        }
      }
      return best;
    }

    private static boolean netHas(int netAddress, int length, int address) {
      return (netAddress ^ address) >> (BITS - length) == 0;
    }
  }

  /** The CABLES and MACHINES, which the net as it is and the net of a trial share. */
  private static final class Plan {
    private final int[] widths = new int[MOST_CABLES];
    int cableCount;
    private final Machine[] machines = new Machine[MOST_MACHINES];
    int machineCount;
    private final Port[] owners = new Port[ADDRESSES];

    Plan() {
      for (int number = 0; number < MOST_MACHINES; number++) {
        machines[number] = new Machine(number);
      }
    }

    /** Returns its number, or NONE if there are 8 already. */
    int putCable(int width) {
      if (cableCount >= MOST_CABLES) {
        return NONE;
      }
      widths[cableCount] = width;
      cableCount++;
      return cableCount - 1;
    }

    int widthOf(int cable) {
      return cable >= 0 && cable < cableCount ? widths[cable] : MOST_WIDTH;
    }

    /** Returns the WIDTH before. */
    int changeWidth(int cable, int width) {
      int before = widthOf(cable);
      if (cable >= 0 && cable < cableCount) {
        widths[cable] = width;
      }
      return before;
    }

    /** Returns its number, or NONE if there are 8 already. */
    int putMachine(boolean isForwarding) {
      if (machineCount >= MOST_MACHINES) {
        return NONE;
      }
      machines[machineCount].isForwarding = isForwarding;
      machineCount++;
      return machineCount - 1;
    }

    /** Returns null if the MACHINE has 4, or the ADDRESS is taken. */
    Port putPort(Machine machine, int cable, int address, int length) {
      if (portWithAddress(address) != null) {
        return null;
      }
      Port port = machine.addNextPort(cable, address, length);
      if (port != null && address >= 0 && address < ADDRESSES) {
        owners[address] = port;
      }
      return port;
    }

    Port portWithAddress(int address) {
      return address >= 0 && address < ADDRESSES ? owners[address] : null;
    }

    Port portWithMark(int mark) {
      if (mark < 0 || mark >= MOST_MACHINES * MOST_PORTS) {
        return null;
      }
      return machines[mark / MOST_PORTS].port(mark % MOST_PORTS);
    }
  }

  /** A PACKET, or a PIECE of one. */
  private static final class Packet {
    int kind;
    int from;
    int to;
    int size;
    int ttl;
    int number;
    int about;
    int place;
    boolean isWhole;
    boolean hasMore;
    Packet inside;

    // Where it WAITS: for this HOP, to go by this PORT.
    int hop;
    Port by;

    // The next one that WAITS, or the next PIECE of the heap: it is never in both.
    Packet next;

    // The next one that the pool has made.
    Packet made;

    boolean isPiece() {
      return place != 0 || hasMore;
    }

    boolean isComplaint() {
      return kind == LOST || kind == NO_WAY || kind == TOO_WIDE;
    }

    /** Becomes the PIECE of the other one that begins so far behind its begin. */
    void cutFrom(Packet other, int ahead, int most) {
      int left = other.size - ahead;
      kind = other.kind;
      from = other.from;
      to = other.to;
      size = Math.min(most, left);
      ttl = other.ttl;
      number = other.number;
      about = other.about;
      place = other.place + ahead;
      isWhole = other.isWhole;
      hasMore = other.hasMore || left > most;
      inside = other.inside;
    }
  }

  /** Hands out PACKETS; a trial's are handed out again, as the next one begins. */
  private static final class Pool {
    private Packet first;
    private Packet last;

    Packet take() {
      Packet packet = last == null ? first : last.made;
      if (packet == null) {
        packet = new Packet();
        if (last == null) {
          first = packet;
        } else {
          last.made = packet;
        }
      }
      last = packet;
      return packet;
    }

    void takeBackAll() {
      last = null;
    }
  }

  /** A FRAME. */
  private static final class Frame {
    int cable;
    int from;
    int to;
    int sort;
    int address;
    Packet packet;
    Frame next;

    int part(int what) {
      switch (what) {
        case 0:
          return cable;
        case 1:
          return from;
        case 2:
          return to;
        case 3:
          return sort;
        default:
          return packet == null ? partWithout(what) : partOf(packet, what);
      }
    }

    private int partWithout(int what) {
      if (what == 4) {
        return address;
      }
      return what == 7 ? NONE : 0;
    }

    private static int partOf(Packet packet, int what) {
      switch (what) {
        case 4:
          return packet.number;
        case 5:
          return packet.size;
        case 6:
          return packet.place;
        default:
          return packet.kind;
      }
    }
  }

  /** The FRAMES in their row. */
  private static final class Row {
    Frame first;
    int length;
    private Frame last;
    private Frame spare;

    void add(int sort, Port from, int to, int address, Packet packet) {
      Frame frame = spare;
      if (frame == null) {
        frame = new Frame();
      } else {
        spare = frame.next;
      }
      frame.sort = sort;
      frame.cable = from.cable;
      frame.from = from.mark;
      frame.to = to;
      frame.address = address;
      frame.packet = packet;
      frame.next = null;
      if (last == null) {
        first = frame;
      } else {
        last.next = frame;
      }
      last = frame;
      length++;
    }

    /** Takes the first one out, or returns null; who takes it hands it back with reuse(). */
    Frame takeFirst() {
      Frame frame = first;
      if (frame == null) {
        return null;
      }
      first = frame.next;
      if (first == null) {
        last = null;
      }
      length--;
      return frame;
    }

    void reuse(Frame frame) {
      frame.next = spare;
      spare = frame;
    }

    Frame find(int index) {
      if (index < 0 || index >= length) {
        return null;
      }
      Frame frame = first;
      for (int at = 0; at < index && frame != null; at++) {
        frame = frame.next;
      }
      return frame;
    }

    void clear() {
      if (last != null) {
        last.next = spare;
        spare = first;
      }
      first = null;
      last = null;
      length = 0;
    }
  }

  /** The PIECES that are KEPT of one PACKET, in the order of their PLACES. */
  private static final class Heap {
    int from;
    int number;
    private Packet first;

    void begin(Packet piece) {
      from = piece.from;
      number = piece.number;
      first = null;
    }

    /** Returns false, and puts nothing, if the PLACE is there already. */
    boolean put(Packet piece) {
      Packet ahead = null;
      Packet behind = first;
      while (behind != null && behind.place < piece.place) {
        ahead = behind;
        behind = behind.next;
      }
      if (behind != null && behind.place == piece.place) {
        return false;
      }
      piece.next = behind;
      if (ahead == null) {
        first = piece;
      } else {
        ahead.next = piece;
      }
      return true;
    }

    /** The SIZE of the PACKET, if it is all there, otherwise NONE. */
    int wholeSize() {
      int end = 0;
      for (Packet piece = first; piece != null; piece = piece.next) {
        if (piece.place != end) {
          return NONE;
        }
        end += piece.size;
        if (!piece.hasMore) {
          return end;
        }
      }
      return NONE;
    }
  }

  /** What goes on at a MACHINE: what it KNOWS, what WAITS, is KEPT and NOTED there. */
  private static final class Host {
    final Machine machine;
    int waitingCount;
    int heapCount;
    int noteCount;
    int goneCount;
    private final int[] marks = new int[ADDRESSES];
    private Packet firstWaiting;
    private Packet lastWaiting;
    private final Heap[] kept = new Heap[MOST_HEAPS];
    private final int[] notes = new int[NOTES_TOLD * NOTE_PARTS];

    Host(Machine machine) {
      this.machine = machine;
      Arrays.fill(marks, NONE);
      for (int at = 0; at < MOST_HEAPS; at++) {
        kept[at] = new Heap();
      }
    }

    int knownMark(int address) {
      return address >= 0 && address < ADDRESSES ? marks[address] : NONE;
    }

    void learn(int address, int mark) {
      if (address >= 0 && address < ADDRESSES) {
        marks[address] = mark;
      }
    }

    /** Returns of how many ADDRESSES it KNEW the MARK. */
    int clearKnown() {
      int known = 0;
      for (int address = 0; address < ADDRESSES; address++) {
        if (marks[address] >= 0) {
          known++;
        }
        marks[address] = NONE;
      }
      return known;
    }

    void putToWait(Packet packet) {
      if (waitingCount >= MOST_WAITING) {
        dropFirstWaiting();
        goneCount++;
      }
      packet.next = null;
      if (lastWaiting == null) {
        firstWaiting = packet;
      } else {
        lastWaiting.next = packet;
      }
      lastWaiting = packet;
      waitingCount++;
    }

    private void dropFirstWaiting() {
      if (firstWaiting != null) {
        firstWaiting = firstWaiting.next;
        waitingCount--;
      }
      if (firstWaiting == null) {
        lastWaiting = null;
      }
    }

    int countWaitingFor(int hop) {
      int count = 0;
      for (Packet packet = firstWaiting; packet != null; packet = packet.next) {
        if (packet.hop == hop) {
          count++;
        }
      }
      return count;
    }

    /** Returns the first of all that WAIT, chained by next; they WAIT no more. */
    Packet takeWaiting() {
      Packet packet = firstWaiting;
      firstWaiting = null;
      lastWaiting = null;
      waitingCount = 0;
      return packet;
    }

    /** The PACKET whole, by this PIECE or itself, or null as long as PIECES are missing. */
    Packet gather(Packet packet) {
      if (!packet.isPiece()) {
        return packet;
      }
      int at = findHeap(packet);
      if (at < 0) {
        at = beginHeap(packet);
      }
      Heap heap = kept[at];
      if (!heap.put(packet)) {
        goneCount++;
        return null;
      }
      int size = heap.wholeSize();
      if (size < 0) {
        return null;
      }
      dropHeap(at);
      packet.place = 0;
      packet.hasMore = false;
      packet.size = size;
      return packet;
    }

    private int findHeap(Packet piece) {
      for (int at = 0; at < heapCount; at++) {
        if (kept[at].from == piece.from && kept[at].number == piece.number) {
          return at;
        }
      }
      return NONE;
    }

    private int beginHeap(Packet piece) {
      if (heapCount >= MOST_HEAPS) {
        dropHeap(0);
        goneCount++;
      }
      int at = heapCount;
      kept[at].begin(piece);
      heapCount++;
      return at;
    }

    private void dropHeap(int dropped) {
      Heap heap = kept[dropped];
      for (int at = dropped; at + 1 < heapCount; at++) {
        kept[at] = kept[at + 1];
      }
      heapCount--;
      kept[heapCount] = heap;
    }

    /** What was in a WRAPPED PACKET, or null if it does not come from a FAR. */
    Packet unwrap(Packet packet) {
      if (machine.hasTunnelTo(packet.from)) {
        return packet.inside;
      }
      goneCount++;
      return null;
    }

    void writeNote(Packet packet) {
      int at = noteCount % NOTES_TOLD * NOTE_PARTS;
      notes[at] = packet.kind;
      notes[at + 1] = packet.from;
      notes[at + 2] = packet.size;
      notes[at + 3] = packet.ttl;
      notes[at + 4] = packet.number;
      notes[at + 5] = packet.about;
      noteCount++;
    }

    boolean isTold(int back) {
      return back >= 0 && back < NOTES_TOLD && back < noteCount;
    }

    int notePart(int back, int what) {
      if (!isTold(back) || what < 0 || what >= NOTE_PARTS) {
        return NONE;
      }
      return notes[(noteCount - 1 - back) % NOTES_TOLD * NOTE_PARTS + what];
    }

    void dropWaitingAndKept() {
      takeWaiting();
      heapCount = 0;
    }

    void learnAllOf(Host other) {
      System.arraycopy(other.marks, 0, marks, 0, ADDRESSES);
    }
  }

  /** The FRAMES and what goes on at all MACHINES: of the net as it is, or of a trial. */
  private static final class Traffic {
    final Row row = new Row();
    int packetCount;
    int stepCount;
    int packetSteps;
    private final Plan plan;
    private final Pool pool = new Pool();
    private final Host[] hosts = new Host[MOST_MACHINES];
    private final int[] deliveredOn = new int[MOST_CABLES];

    Traffic(Plan plan) {
      this.plan = plan;
      for (int number = 0; number < MOST_MACHINES; number++) {
        hosts[number] = new Host(plan.machines[number]);
      }
    }

    Host host(int number) {
      return number >= 0 && number < MOST_MACHINES ? hosts[number] : null;
    }

    private Host hostWithMark(int mark) {
      return mark < 0 ? null : host(mark / MOST_PORTS);
    }

    int carriedOn(int cable) {
      return cable >= 0 && cable < MOST_CABLES ? deliveredOn[cable] : 0;
    }

    int goneInAll() {
      int sum = 0;
      for (int number = 0; number < MOST_MACHINES; number++) {
        sum += hosts[number].goneCount;
      }
      return sum;
    }

    /** Takes over what the MACHINES of the other one KNOW, and how many PACKETS came to be. */
    void takeOver(Traffic other) {
      packetCount = other.packetCount;
      for (int number = 0; number < MOST_MACHINES; number++) {
        hosts[number].learnAllOf(other.hosts[number]);
      }
    }

    void dropAllUnderWay() {
      row.clear();
      for (int number = 0; number < MOST_MACHINES; number++) {
        hosts[number].dropWaitingAndKept();
      }
      pool.takeBackAll();
    }

    /** Lets a new PACKET GO OUT. Returns its NUMBER, or NONE if it does not come to be. */
    int launch(Host host, int kind, int to, int size, int ttl, boolean isWhole) {
      int from = sourceFor(host.machine, to);
      if (from < 0) {
        return NONE;
      }
      Packet packet = bear(kind, from, to, size);
      packet.ttl = ttl;
      packet.isWhole = isWhole;
      int number = packet.number;
      goOut(host, packet);
      return number;
    }

    private Packet bear(int kind, int from, int to, int size) {
      Packet packet = pool.take();
      packet.kind = kind;
      packet.from = from;
      packet.to = to;
      packet.size = size;
      packet.ttl = NEW_TTL;
      packet.number = packetCount;
      packet.about = 0;
      packet.place = 0;
      packet.isWhole = false;
      packet.hasMore = false;
      packet.inside = null;
      packetCount++;
      return packet;
    }

    /** FROM of a new PACKET, or NONE if it does not come to be. */
    private static int sourceFor(Machine machine, int to) {
      if (machine.owns(to)) {
        return to;
      }
      int index = machine.portTo(to);
      if (index == BY_TUNNEL) {
        index = machine.portTo(machine.farOf(machine.hopTo(to)));
      }
      Port port = machine.port(index);
      return port == null ? NONE : port.address;
    }

    /** Lets it GO OUT, and then, one after the other, what comes to be because of it. */
    private void goOut(Host host, Packet packet) {
      Machine machine = host.machine;
      Packet going = packet;
      for (int turn = 0; going != null && turn < FAR_ABOVE; turn++) {
        int index = machine.portTo(going.to);
        Port port = machine.port(index);
        if (machine.owns(going.to)) {
          // Whole and not WRAPPED: PIECES GO OUT to others only, as do WRAPPED ones.
          going = accept(host, going);
        } else if (index == BY_TUNNEL && canWrap(machine, going)) {
          going = wrap(machine, going);
        } else if (port == null) {
          going = complain(host, going, NO_WAY, 0);
        } else if (going.isWhole && going.size + HEAD > plan.widthOf(port.cable)) {
          going = complain(host, going, TOO_WIDE, plan.widthOf(port.cable));
        } else {
          goByPort(host, port, going);
          going = null;
        }
      }
    }

    private static boolean canWrap(Machine machine, Packet packet) {
      int far = machine.farOf(machine.hopTo(packet.to));
      return !machine.owns(far) && machine.port(machine.portTo(far)) != null;
    }

    private Packet wrap(Machine machine, Packet packet) {
      int far = machine.farOf(machine.hopTo(packet.to));
      Packet wrapped = bear(WRAPPED, sourceFor(machine, far), far, packet.size + HEAD);
      wrapped.inside = packet;
      return wrapped;
    }

    /** Sends it to the HOP, in PIECES if the CABLE is too narrow. */
    private void goByPort(Host host, Port port, Packet packet) {
      int width = plan.widthOf(port.cable);
      int most = (width - HEAD) / GRAIN * GRAIN;
      if (packet.size + HEAD <= width || most < 1) {
        goToHop(host, port, packet);
        return;
      }
      for (int ahead = 0; ahead < packet.size; ahead += most) {
        Packet piece = pool.take();
        piece.cutFrom(packet, ahead, most);
        goToHop(host, port, piece);
      }
    }

    private void goToHop(Host host, Port port, Packet packet) {
      int hop = host.machine.hopTo(packet.to);
      int mark = host.knownMark(hop);
      if (mark >= 0) {
        row.add(WITH_PACKET, port, mark, NONE, packet);
        return;
      }
      packet.hop = hop;
      packet.by = port;
      host.putToWait(packet);
      if (host.countWaitingFor(hop) == 1) {
        row.add(QUESTION, port, NONE, hop, null);
      }
    }

    /** Returns the COMPLAINT that GOES OUT next, or null. */
    private Packet complain(Host host, Packet packet, int kind, int about) {
      host.goneCount++;
      if (packet.isComplaint() || packet.place != 0) {
        return null;
      }
      int from = sourceFor(host.machine, packet.from);
      if (from < 0) {
        return null;
      }
      Packet complaint = bear(kind, from, packet.from, 0);
      complaint.isWhole = true;
      complaint.about = about;
      return complaint;
    }

    /** Makes a STEP, if there is a FRAME. Returns whether there was. */
    boolean deliverNext() {
      Frame frame = row.takeFirst();
      if (frame == null) {
        return false;
      }
      stepCount++;
      if (frame.cable >= 0 && frame.cable < MOST_CABLES) {
        deliveredOn[frame.cable]++;
      }
      if (frame.sort == QUESTION) {
        hearQuestion(frame);
      } else if (frame.sort == REPLY) {
        hearReply(frame);
      } else {
        packetSteps++;
        Host host = hostWithMark(frame.to);
        if (host != null) {
          goOut(host, come(host, frame.packet));
        }
      }
      row.reuse(frame);
      return true;
    }

    private void hearQuestion(Frame frame) {
      Port asked = plan.portWithAddress(frame.address);
      Port asker = plan.portWithMark(frame.from);
      if (asked == null || asker == null || asked == asker || asked.cable != frame.cable) {
        return;
      }
      Host host = hostWithMark(asked.mark);
      if (host != null) {
        host.learn(asker.address, asker.mark);
        row.add(REPLY, asked, asker.mark, asked.address, null);
      }
    }

    private void hearReply(Frame frame) {
      Host host = hostWithMark(frame.to);
      if (host == null) {
        return;
      }
      host.learn(frame.address, frame.from);
      Packet packet = host.takeWaiting();
      while (packet != null) {
        Packet next = packet.next;
        if (packet.hop == frame.address && packet.by != null) {
          row.add(WITH_PACKET, packet.by, frame.from, NONE, packet);
        } else {
          host.putToWait(packet);
        }
        packet = next;
      }
    }

    /** Treats what came in a FRAME. Returns the one that GOES OUT next because of it, or null. */
    private Packet come(Host host, Packet packet) {
      Packet coming = packet;
      for (int level = 0; coming != null && level < FAR_ABOVE; level++) {
        if (!host.machine.owns(coming.to)) {
          if (!host.machine.isForwarding) {
            host.goneCount++;
            return null;
          }
          coming.ttl--;
          return coming.ttl > 0 ? coming : complain(host, coming, LOST, 0);
        }
        Packet whole = host.gather(coming);
        if (whole == null) {
          return null;
        }
        if (whole.kind != WRAPPED) {
          return accept(host, whole);
        }
        coming = host.unwrap(whole);
      }
      return null;
    }

    /** RECEIVES a whole PACKET that is not WRAPPED. Returns the ANSWER that GOES OUT, or null. */
    private Packet accept(Host host, Packet packet) {
      if (packet.kind != ASK) {
        host.writeNote(packet);
        return null;
      }
      Packet answer = bear(ANSWER, packet.to, packet.from, packet.size);
      answer.about = packet.number;
      return answer;
    }

    /** Returns how many WAITED there. */
    int complainOfWaiting(Host host) {
      int count = host.waitingCount;
      Packet packet = host.takeWaiting();
      while (packet != null) {
        Packet next = packet.next;
        goOut(host, complain(host, packet, NO_WAY, 1));
        packet = next;
      }
      return count;
    }
  }

  /** Tries ASKS in a net of its own, which has the PLAN of the net as it is. */
  private static final class Trial {
    boolean isAnswered;
    int toldKind;
    int toldFrom;
    int toldAbout;
    private final Traffic traffic;
    private int number;
    private int seen;

    Trial(Plan plan) {
      traffic = new Traffic(plan);
    }

    void begin(Traffic now) {
      traffic.takeOver(now);
    }

    void ask(int machine, int to, int size, int ttl, boolean isWhole) {
      isAnswered = false;
      toldKind = NONE;
      toldFrom = NONE;
      toldAbout = NONE;
      traffic.dropAllUnderWay();
      Host host = traffic.host(machine);
      if (host == null) {
        return;
      }
      seen = host.noteCount;
      number = traffic.launch(host, ASK, to, size, ttl, isWhole);
      look(host);
      for (int steps = 0; steps < TRIAL_STEPS && traffic.deliverNext(); steps++) {
        look(host);
      }
    }

    private void look(Host host) {
      for (int back = host.noteCount - seen - 1; back >= 0; back--) {
        int kind = host.notePart(back, 0);
        boolean isAnswer = kind == ANSWER && host.notePart(back, 5) == number;
        boolean isComplaint = kind == LOST || kind == NO_WAY || kind == TOO_WIDE;
        isAnswered = isAnswered || isAnswer;
        if (toldKind == NONE && (isAnswer || isComplaint)) {
          toldKind = kind;
          toldFrom = host.notePart(back, 1);
          toldAbout = host.notePart(back, 5);
        }
      }
      seen = host.noteCount;
    }
  }
}
