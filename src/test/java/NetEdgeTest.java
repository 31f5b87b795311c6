import java.util.function.Supplier;

/** The edges of "Terms, 1 MACHINES" and of promises 1 to 9, each sentence by a test of its own. */
public final class NetEdgeTest {
  private static final int LOW = Integer.MIN_VALUE;
  private static final int HIGH = Integer.MAX_VALUE;
  private static final Supplier<SeamarkNet> EMPTY = SeamarkNet::new;
  private static final Supplier<SeamarkNet> BUSY = Nets::busy;
  private static final Supplier<SeamarkNet> FULL = Nets::full;

  public static void main(String[] args) {
    Sentences s = new Sentences("NetEdgeTest");
    cables(s);
    machines(s);
    ports(s);
    nets(s);
    tunnels(s);
    routes(s);
    ways(s);
    waysByRoutes(s);
    promise1(s);
    promise2(s);
    promise3(s);
    promise4(s);
    promise5(s);
    promise5Edges(s);
    promise6(s);
    promise7(s);
    promise7Via(s);
    promise8(s);
    promise9(s);
    s.end();
  }

  // ---- nets

  private static SeamarkNet withCables(int count) {
    SeamarkNet net = new SeamarkNet();
    for (int cable = 0; cable < count; cable++) {
      net.addCable(12 + cable);
    }
    return net;
  }

  private static SeamarkNet withMachines(int count) {
    SeamarkNet net = new SeamarkNet();
    for (int machine = 0; machine < count; machine++) {
      net.addMachine(true);
    }
    return net;
  }

  /** A MACHINE with a PORT of that ADDRESS and LENGTH on a CABLE. */
  private static SeamarkNet withPort(int address, int length) {
    SeamarkNet net = withMachines(1);
    net.addCable(100);
    net.addPort(0, 0, address, length);
    return net;
  }

  private static void way(Check check, SeamarkNet net, int to, String due) {
    check.same("the WAY to " + to, View.way(net, 0, to), due);
  }

  // ---- Terms, 1 MACHINES

  private static void cables(Sentences s) {
    s.test("CABLES: at most 8, numbered from 0", check -> {
      SeamarkNet net = new SeamarkNet();
      for (int cable = 0; cable < 8; cable++) {
        check.same("addCable", net.addCable(100), cable);
      }
      check.state("a ninth one", () -> net.addCable(100));
      check.same("the eighth one is there", net.carried(7), 0);
      check.bounds("the ninth one is not", () -> net.carried(8));
    });
    s.test("CABLES: the last one carries FRAMES as the first one does", check -> {
      SeamarkNet net = withCables(8);
      net.addMachine(false);
      net.addMachine(false);
      net.addPort(0, 7, 1, 0);
      net.addPort(1, 7, 2, 0);
      net.send(0, 2, false, 15, 1, true);
      check.same("on CABLE 7", View.frame(net, 0), "7 0 -1 1 2 0 0 -1");
      net.step(60);
      check.same("carried(7)", net.carried(7), 3);
      check.same("carried(0)", net.carried(0), 0);
    });
    s.test("WIDTH: 12 is the smallest one", check -> {
      SeamarkNet net = Nets.street(12);
      net.send(0, 34, false, 8, 1, true);
      net.send(0, 34, false, 9, 1, true);
      net.step(60);
      check.same("8 comes through", View.note(net, 1, 0), "0 33 8 1 0 0");
      check.same("9 is TOO WIDE", View.note(net, 0, 0), "5 33 0 32 2 12");
    });
    s.test("WIDTH: 200 is the greatest one", check -> {
      SeamarkNet net = Nets.street(200);
      net.send(0, 34, false, 196, 1, true);
      net.send(0, 34, false, 197, 1, true);
      net.step(60);
      check.same("196 comes through", View.note(net, 1, 0), "0 33 196 1 0 0");
      check.same("197 is TOO WIDE", View.note(net, 0, 0), "5 33 0 32 2 200");
    });
  }

  private static void machines(Sentences s) {
    s.test("MACHINES: at most 8, numbered from 0", check -> {
      SeamarkNet net = new SeamarkNet();
      for (int machine = 0; machine < 8; machine++) {
        check.same("machines()", net.machines(), machine);
        check.same("addMachine", net.addMachine(false), machine);
      }
      check.state("a ninth one", () -> net.addMachine(true));
      check.same("8 are there", net.machines(), 8);
      check.same("the eighth one", net.waiting(7), 0);
      check.bounds("no ninth one", () -> net.waiting(8));
    });
    s.test("MACHINES: the last one with all its PORTS sends and is sent to", check -> {
      SeamarkNet net = withMachines(8);
      net.addCable(100);
      net.addPort(0, 0, 1, 0);
      net.addPort(7, 0, 10, 8);
      net.addPort(7, 0, 20, 8);
      net.addPort(7, 0, 30, 8);
      check.same("the greatest MARK", net.addPort(7, 0, 255, 0), 31);
      net.send(7, 1, true, 5, 1, false);
      check.same("QUESTION", View.frame(net, 0), "0 31 -1 1 1 0 0 -1");
      net.step(1);
      check.same("0 KNOWS", net.knows(0, 255), 31);
      check.same("REPLY", View.frame(net, 0), "0 0 31 2 1 0 0 -1");
      net.step(1);
      check.same("ASK", View.frame(net, 0), "0 31 0 0 0 5 0 1");
      net.step(1);
      check.same("ANSWER", View.frame(net, 0), "0 0 31 0 1 5 0 2");
      net.step(1);
      check.same("it is NOTED", View.note(net, 7, 0), "2 1 5 32 1 0");
    });
  }

  private static void ports(Sentences s) {
    s.test("PORTS: at most 4 of a MACHINE, numbered from 0 as they come", check -> {
      SeamarkNet net = withMachines(2);
      net.addCable(100);
      net.addPort(1, 0, 9, 8);
      for (int port = 0; port < 4; port++) {
        net.addPort(0, 0, 20 + port, 8);
        check.same("its number", net.way(0, 20 + port, 0), port);
      }
      check.state("a fifth one", () -> net.addPort(0, 0, 24, 8));
      check.same("it did not come", net.way(0, 24, 0), -1);
      check.same("the other MACHINE has room", net.addPort(1, 0, 24, 8), 5);
    });
    s.test("MARK: 4 * its MACHINE + its number", check -> {
      SeamarkNet net = withMachines(8);
      net.addCable(100);
      for (int port = 0; port < 4; port++) {
        for (int machine = 0; machine < 8; machine++) {
          check.same("MARK", net.addPort(machine, 0, 8 * machine + port, 8), 4 * machine + port);
        }
      }
    });
    s.test("ADDRESS: 0 is the smallest one, 255 the greatest one", check -> {
      SeamarkNet net = withPort(0, 0);
      net.addMachine(false);
      net.addPort(1, 0, 255, 0);
      net.send(0, 255, true, 3, 1, false);
      check.same("QUESTION", View.frame(net, 0), "0 0 -1 1 255 0 0 -1");
      net.step(60);
      check.same("ANSWER of 255", View.note(net, 0, 0), "2 255 3 32 1 0");
      check.same("0 KNOWS 255", net.knows(0, 255), 4);
      check.same("1 KNOWS 0", net.knows(1, 0), 0);
      net.send(1, 0, true, 4, 1, false);
      net.step(60);
      check.same("ANSWER of 0", View.note(net, 1, 0), "2 0 4 32 3 2");
    });
    s.test("ADDRESS: that no other PORT of any MACHINE has", check -> {
      SeamarkNet net = withPort(77, 8);
      net.addCable(50);
      net.addMachine(true);
      check.state("of the MACHINE itself", () -> net.addPort(0, 1, 77, 3));
      check.state("of another one, on the same CABLE", () -> net.addPort(1, 0, 77, 8));
      check.state("of another one, on another CABLE", () -> net.addPort(1, 1, 77, 0));
      check.same("the next one is free", net.addPort(1, 1, 78, 0), 4);
      check.state("now that is not", () -> net.addPort(0, 0, 78, 0));
    });
  }

  private static void nets(Sentences s) {
    for (int length = 0; length <= 8; length++) {
      int l = length;
      s.test("NET of a PORT: the first " + l + " bits, from the greatest one on", check -> {
        SeamarkNet net = withPort(0b10110101, l);
        for (int d = 0; d < 256; d++) {
          boolean has = d >> 8 - l == 0b10110101 >> 8 - l;
          check.same("PORT to " + d, net.way(0, d, 0), has ? 0 : -1);
        }
        check.same("its l", net.way(0, 0b10110101, 2), l);
      });
      s.test("NET of a ROUTE: the first " + l + " bits, from the greatest one on", check -> {
        SeamarkNet net = withPort(0b00000011, 8);
        net.addRoute(0, 0b10110101, l, 0b00000011);
        for (int d = 0; d < 256; d++) {
          boolean has = d == 0b00000011 || d >> 8 - l == 0b10110101 >> 8 - l;
          check.same("HOP to " + d, net.way(0, d, 1), has ? 0b00000011 : -1);
        }
        check.same("its l", net.way(0, 0b10110101, 2), l);
      });
    }
  }

  private static void tunnels(Sentences s) {
    s.test("TUNNELS: at most 2 of a MACHINE, numbered from 0", check -> {
      SeamarkNet net = withMachines(2);
      check.same("the first one", net.addTunnel(0, 70), 0);
      check.same("of another MACHINE", net.addTunnel(1, 70), 0);
      check.same("the second one, with the same FAR", net.addTunnel(0, 70), 1);
      check.state("a third one", () -> net.addTunnel(0, 71));
      check.same("the other MACHINE has room", net.addTunnel(1, 71), 1);
    });
    s.test("TUNNELS: with a FAR ADDRESS, 0 or 255, too", check -> {
      SeamarkNet net = withPort(60, 0);
      net.addMachine(false);
      net.addPort(1, 0, 0, 0);
      net.addPort(1, 0, 255, 8);
      net.addPort(1, 0, 9, 8);
      net.addPort(1, 0, 8, 8);
      net.addTunnel(1, 60);
      check.same("FAR 0", net.addTunnel(0, 0), 0);
      check.same("FAR 255", net.addTunnel(0, 255), 1);
      net.addRoute(0, 9, 8, -1);
      net.addRoute(0, 8, 7, -2);
      net.send(0, 9, false, 3, 1, false);
      check.same("0 is asked for", View.frame(net, 0), "0 0 -1 1 0 0 0 -1");
      net.send(0, 8, false, 4, 1, false);
      check.same("255 is asked for", View.frame(net, 1), "0 0 -1 1 255 0 0 -1");
      net.step(60);
      check.same("by FAR 0", View.note(net, 1, 1), "0 60 3 1 0 0");
      check.same("by FAR 255", View.note(net, 1, 0), "0 60 4 1 2 0");
    });
  }

  private static void routes(Sentences s) {
    s.test("ROUTES: at most 6 of a MACHINE, numbered from 0 as they come", check -> {
      SeamarkNet net = withPort(1, 8);
      net.addMachine(true);
      for (int route = 0; route < 6; route++) {
        check.same("its number", net.addRoute(0, 16 * route + 16, 8, 1), route);
        check.same("it leads", net.way(0, 16 * route + 16, 1), 1);
      }
      check.state("a seventh one", () -> net.addRoute(0, 200, 8, 1));
      check.same("it did not come", net.way(0, 200, 1), -1);
      check.same("another MACHINE has room", net.addRoute(1, 200, 8, 1), 0);
    });
  }

  private static void ways(Sentences s) {
    s.test("WAY: the NET with the greatest l, of PORTS and ROUTES", check -> {
      SeamarkNet net = withPort(0b01000000, 2);
      net.addPort(0, 0, 0b01010000, 4);
      net.addPort(0, 0, 0b01101100, 3);
      net.addRoute(0, 0b01010100, 6, 0b01000001);
      net.addRoute(0, 0b01010110, 8, 0b01010001);
      net.addRoute(0, 0b01010110, 7, 0b01011001);
      way(check, net, 0b01000100, "0 68 2");
      way(check, net, 0b01100001, "2 97 3");
      way(check, net, 0b01011000, "1 88 4");
      way(check, net, 0b01010101, "0 65 6");
      way(check, net, 0b01010110, "1 81 8");
      way(check, net, 0b01010111, "1 89 7");
    });
    s.test("WAY: of several NETS PORTS ahead of ROUTES", check -> {
      SeamarkNet net = withPort(0b01000000, 2);
      net.addRoute(0, 0b01010000, 4, 0b01000001);
      way(check, net, 0b01010011, "0 65 4");
      net.addPort(0, 0, 0b01010000, 4);
      way(check, net, 0b01010011, "1 83 4");
      net.addRoute(0, 0b01010000, 5, 0b01000001);
      way(check, net, 0b01010011, "0 65 5");
    });
    s.test("WAY: of several PORTS the smallest number", check -> {
      SeamarkNet net = withPort(0b01000011, 4);
      net.addPort(0, 0, 0b01000001, 4);
      net.addPort(0, 0, 0b01000010, 4);
      way(check, net, 0b01000111, "0 71 4");
      way(check, net, 0b01000001, "0 65 4");
    });
    s.test("WAY: of several ROUTES the smallest number", check -> {
      SeamarkNet net = withPort(0b01000011, 4);
      net.addRoute(0, 0b11000000, 2, 0b01000001);
      net.addRoute(0, 0b11100000, 2, 0b01000010);
      way(check, net, 0b11100000, "0 65 2");
    });
    s.test("WAY: by a PORT, the HOP is d, also if d is its own", check -> {
      SeamarkNet net = withPort(99, 8);
      way(check, net, 99, "0 99 8");
    });
    s.test("WAY: without any NET that has d there is none", check -> {
      SeamarkNet net = withMachines(1);
      way(check, net, 0, "-1 -1 -1");
      way(check, net, 255, "-1 -1 -1");
      net.addCable(12);
      net.addPort(0, 0, 0b10000000, 1);
      way(check, net, 0b01111111, "-1 -1 -1");
      net.addRoute(0, 0, 2, 0b10000001);
      way(check, net, 0b01000000, "-1 -1 -1");
      way(check, net, 0b00111111, "0 129 2");
    });
  }

  private static void waysByRoutes(Sentences s) {
    s.test("ROUTE VIA an ADDRESS: by the PORT with the greatest l that has it", check -> {
      SeamarkNet net = withPort(0b01000000, 2);
      net.addPort(0, 0, 0b01010000, 4);
      net.addPort(0, 0, 0b01011111, 3);
      net.addRoute(0, 0b11000000, 8, 0b01010001);
      way(check, net, 0b11000000, "1 81 8");
    });
    s.test("ROUTE VIA an ADDRESS: of several PORTS by that with the smallest number", check -> {
      SeamarkNet net = withPort(0b01000000, 2);
      net.addPort(0, 0, 0b01010000, 4);
      net.addPort(0, 0, 0b01010001, 4);
      net.addRoute(0, 0b11000000, 8, 0b01010001);
      way(check, net, 0b11000000, "1 81 8");
    });
    s.test("ROUTE VIA an ADDRESS: its PORT is not sought by ROUTES", check -> {
      SeamarkNet net = withPort(0b01000000, 2);
      net.addRoute(0, 0b10000000, 2, 0b01000001);
      net.addRoute(0, 0b11000000, 2, 0b10000001);
      way(check, net, 0b10000001, "0 65 2");
      way(check, net, 0b11000000, "-1 -1 -1");
    });
    s.test("ROUTE VIA an ADDRESS: without such a PORT no other ROUTE is taken", check -> {
      SeamarkNet net = withPort(0b01000000, 2);
      net.addRoute(0, 0b11000000, 4, 0b00000001);
      net.addRoute(0, 0b11000000, 4, 0b01000001);
      net.addRoute(0, 0b11000000, 3, 0b01000001);
      way(check, net, 0b11000000, "-1 -1 -1");
      way(check, net, 0b11010000, "0 65 3");
    });
    s.test("ROUTE VIA an ADDRESS: without such a PORT no PORT with less l is taken", check -> {
      SeamarkNet net = withPort(0b01000000, 2);
      net.addRoute(0, 0b01110000, 4, 0b11000001);
      way(check, net, 0b01110000, "-1 -1 -1");
      way(check, net, 0b01100000, "0 96 2");
    });
    s.test("ROUTE VIA an ADDRESS: the HOP is that, also if it is its own", check -> {
      SeamarkNet net = withPort(0b01000000, 2);
      net.addRoute(0, 0b11000000, 1, 0b01000000);
      way(check, net, 0b11000000, "0 64 1");
    });
    s.test("ROUTE VIA an ADDRESS: 0 or 255, too", check -> {
      SeamarkNet net = withPort(0b00000001, 1);
      net.addPort(0, 0, 0b11000000, 2);
      net.addRoute(0, 0b10000000, 8, 0);
      net.addRoute(0, 0b10000001, 8, 255);
      way(check, net, 0b10000000, "0 0 8");
      way(check, net, 0b10000001, "1 255 8");
      check.same("it goes there", net.send(0, 0b10000000, false, 1, 1, false), 0);
      check.same("0 is asked for", View.frame(net, 0), "0 0 -1 1 0 0 0 -1");
    });
    s.test("ROUTE VIA a TUNNEL: by that, wherever its FAR is", check -> {
      SeamarkNet net = withPort(0b01000000, 2);
      net.addTunnel(0, 0b11111111);
      net.addTunnel(0, 0b01000000);
      net.addRoute(0, 0b11000000, 2, -2);
      net.addRoute(0, 0b11110000, 4, -1);
      way(check, net, 0b11000000, "-2 1 2");
      way(check, net, 0b11111111, "-2 0 4");
    });
  }

  // ---- promises 1 to 9

  private static void promise1(Sentences s) {
    s.test("Promise 1: a net without MACHINES", check -> {
      Refused.bounds(check, EMPTY, net -> net.addPort(0, 0, 1, 1), net -> net.addTunnel(0, 1),
          net -> net.addRoute(0, 1, 1, 1), net -> net.dropRoute(0),
          net -> net.setForwarding(0, true), net -> net.send(0, 1, true, 1, 1, true),
          net -> net.forget(0), net -> net.giveUp(0), net -> net.knows(0, 1),
          net -> net.waiting(0), net -> net.heaps(0), net -> net.noted(0),
          net -> net.note(0, 0, 0), net -> net.way(0, 1, 0), net -> net.whoTells(0, 1, 1),
          net -> net.hops(0, 1), net -> net.widest(0, 1));
      check.same("machines()", new SeamarkNet().machines(), 0);
    });
    s.test("Promise 1: and without CABLES and FRAMES", check -> {
      Refused.bounds(check, EMPTY, net -> net.setWidth(0, 12), net -> net.carried(0),
          net -> net.frame(0, 0));
      SeamarkNet net = new SeamarkNet();
      check.same("packets()", net.packets(), 0);
      check.same("steps()", net.steps(), 0);
      check.same("gone()", net.gone(), 0);
      check.same("frames()", net.frames(), 0);
      check.same("use()", net.use(), 0.0);
      check.same("step()", net.step(60), 0);
      check.same("digest()", net.digest(), 58062L * 31 * 31 * 31 * 31 * 31);
    });
  }

  private static void promise2(Sentences s) {
    s.test("Promise 2: IllegalArgumentException if width is not 12 to 200", check -> {
      Refused.argument(check, BUSY, net -> net.addCable(11), net -> net.addCable(201),
          net -> net.addCable(0), net -> net.addCable(-12), net -> net.addCable(-200),
          net -> net.addCable(LOW), net -> net.addCable(HIGH));
      check.same("12", Nets.busy().addCable(12), 4);
      check.same("200", Nets.busy().addCable(200), 4);
    });
    s.test("Promise 2: IllegalStateException if there are 8", check -> {
      Refused.state(check, FULL, net -> net.addCable(12), net -> net.addCable(200));
      check.same("if there are 7", withCables(7).addCable(12), 7);
    });
    s.test("Promise 2: of several exceptions that named first", check ->
        Refused.argument(check, FULL, net -> net.addCable(11), net -> net.addCable(201)));
  }

  private static void promise3(Sentences s) {
    s.test("Promise 3: IndexOutOfBoundsException if there is no such CABLE", check -> {
      Refused.bounds(check, BUSY, net -> net.setWidth(-1, 50), net -> net.setWidth(4, 50),
          net -> net.setWidth(7, 50), net -> net.setWidth(8, 50), net -> net.setWidth(LOW, 50),
          net -> net.setWidth(HIGH, 50));
      check.same("the last one", Nets.busy().setWidth(3, 50), 200);
      Refused.bounds(check, FULL, net -> net.setWidth(8, 50), net -> net.setWidth(-1, 50));
      check.same("the eighth one", Nets.full().setWidth(7, 50), 19);
    });
    s.test("Promise 3: IllegalArgumentException if width is not 12 to 200", check -> {
      Refused.argument(check, BUSY, net -> net.setWidth(0, 11), net -> net.setWidth(0, 201),
          net -> net.setWidth(0, 0), net -> net.setWidth(0, -24), net -> net.setWidth(0, LOW),
          net -> net.setWidth(0, HIGH));
      check.same("12", Nets.busy().setWidth(0, 12), 24);
      check.same("200", Nets.busy().setWidth(0, 200), 24);
    });
    s.test("Promise 3: of several exceptions that named first", check ->
        Refused.bounds(check, BUSY, net -> net.setWidth(4, 11), net -> net.setWidth(-1, 201)));
    s.test("Promise 3: returns the WIDTH before, also if it is the same", check -> {
      SeamarkNet net = withCables(2);
      check.same("from 12", net.setWidth(0, 12), 12);
      check.same("from 12 again", net.setWidth(0, 200), 12);
      check.same("from 200", net.setWidth(0, 12), 200);
      check.same("from 12 at last", net.setWidth(0, 13), 12);
      check.same("the other CABLE has its own", net.setWidth(1, 12), 13);
    });
    s.test("Promise 3: from now on: what is in a FRAME, or WAITS, is not measured again", check -> {
      SeamarkNet net = Nets.street(40);
      net.send(0, 34, false, 36, 5, true);
      net.setWidth(0, 12);
      net.step(2);
      check.same("in a FRAME", View.frame(net, 0), "0 0 4 0 0 36 0 0");
      net.setWidth(0, 13);
      net.step(1);
      check.same("it came", View.note(net, 1, 0), "0 33 36 5 0 0");
      net.send(0, 34, false, 36, 5, true);
      check.same("a new one is measured", View.note(net, 0, 0), "5 33 0 32 2 13");
      net.setWidth(0, 40);
      net.send(0, 34, false, 36, 5, true);
      check.same("and again", View.frame(net, 0), "0 0 4 0 3 36 0 0");
    });
  }

  private static void promise4(Sentences s) {
    s.test("Promise 4: IllegalStateException if there are 8", check -> {
      Refused.state(check, FULL, net -> net.addMachine(true), net -> net.addMachine(false));
      check.same("if there are 7", withMachines(7).addMachine(true), 7);
    });
    s.test("Promise 4: a MACHINE without PORTS", check -> {
      SeamarkNet net = Nets.busy();
      net.addMachine(true);
      for (int to = 0; to < 256; to += 17) {
        check.same("no WAY", View.way(net, 4, to), "-1 -1 -1");
        check.same("nothing comes to be", net.send(4, to, false, 0, 1, false), -1);
      }
      check.same("its first PORT", net.addPort(4, 0, 30, 8), 16);
    });
    s.test("Promise 4: and with nothing that it KNOWS, has waiting, KEPT or NOTED", check -> {
      SeamarkNet net = Nets.busy();
      net.addMachine(true);
      check.same("forget()", net.forget(4), 0);
      check.same("waiting()", net.waiting(4), 0);
      check.same("heaps()", net.heaps(4), 0);
      check.same("noted()", net.noted(4), 0);
      check.state("no ROUTE", () -> net.dropRoute(4));
    });
    s.test("Promise 4: it FORWARDS, or not", check -> {
      SeamarkNet net = new SeamarkNet();
      net.addMachine(true);
      net.addMachine(false);
      check.same("it does", net.setForwarding(0, false), true);
      check.same("it does not", net.setForwarding(1, false), false);
    });
  }

  private static void promise5(Sentences s) {
    s.test("Promise 5: IndexOutOfBoundsException if there is no such MACHINE", check -> {
      Refused.bounds(check, BUSY, net -> net.addPort(-1, 0, 1, 1), net -> net.addPort(4, 0, 1, 1),
          net -> net.addPort(8, 0, 1, 1), net -> net.addPort(LOW, 0, 1, 1),
          net -> net.addPort(HIGH, 0, 1, 1));
      check.same("the last one", Nets.busy().addPort(3, 0, 1, 1), 14);
    });
    s.test("Promise 5: IndexOutOfBoundsException if there is no such CABLE", check -> {
      Refused.bounds(check, BUSY, net -> net.addPort(0, -1, 1, 1), net -> net.addPort(0, 4, 1, 1),
          net -> net.addPort(0, 8, 1, 1), net -> net.addPort(0, LOW, 1, 1),
          net -> net.addPort(0, HIGH, 1, 1));
      check.same("the last one", Nets.busy().addPort(0, 3, 1, 1), 1);
    });
    s.test("Promise 5: IllegalArgumentException if address is not 0 to 255", check -> {
      Refused.argument(check, BUSY, net -> net.addPort(0, 0, -1, 1),
          net -> net.addPort(0, 0, 256, 1), net -> net.addPort(0, 0, LOW, 1),
          net -> net.addPort(0, 0, HIGH, 1));
      check.same("0", Nets.busy().addPort(0, 0, 0, 1), 1);
      check.same("255", Nets.busy().addPort(0, 0, 255, 1), 1);
    });
    s.test("Promise 5: IllegalArgumentException if length is not 0 to 8", check -> {
      Refused.argument(check, BUSY, net -> net.addPort(0, 0, 1, -1),
          net -> net.addPort(0, 0, 1, 9), net -> net.addPort(0, 0, 1, LOW),
          net -> net.addPort(0, 0, 1, HIGH));
      check.same("0", Nets.busy().addPort(0, 0, 1, 0), 1);
      check.same("8", Nets.busy().addPort(0, 0, 1, 8), 1);
    });
  }

  private static void promise5Edges(Sentences s) {
    s.test("Promise 5: IllegalStateException if the MACHINE has 4", check -> {
      Refused.state(check, FULL, net -> net.addPort(0, 0, 1, 1), net -> net.addPort(0, 7, 255, 8));
      SeamarkNet net = withPort(1, 1);
      net.addPort(0, 0, 2, 1);
      net.addPort(0, 0, 3, 1);
      check.same("if it has 3", net.addPort(0, 0, 4, 1), 3);
    });
    s.test("Promise 5: IllegalStateException if a PORT has this ADDRESS", check -> {
      Refused.state(check, BUSY, net -> net.addPort(0, 0, 17, 1), net -> net.addPort(0, 2, 49, 4),
          net -> net.addPort(3, 3, 130, 8), net -> net.addPort(1, 0, 51, 0));
      check.same("none has this", Nets.busy().addPort(0, 0, 50, 8), 1);
    });
    s.test("Promise 5: of several exceptions that named first", check -> {
      Refused.bounds(check, FULL, net -> net.addPort(8, 0, 256, 1), net -> net.addPort(0, 8, -1, 1),
          net -> net.addPort(0, 8, 1, 9), net -> net.addPort(-1, 0, 17, 1),
          net -> net.addPort(0, -1, 17, 1), net -> net.addPort(8, 8, 17, 9));
      Refused.argument(check, FULL, net -> net.addPort(0, 0, 256, 1),
          net -> net.addPort(0, 0, 17, 9), net -> net.addPort(1, 0, 17, -1));
    });
    s.test("Promise 5: the WAYS of its MACHINE are those with the PORT at once", check -> {
      SeamarkNet net = Nets.street(40);
      net.addRoute(0, 128, 1, 70);
      way(check, net, 200, "-1 -1 -1");
      net.addPort(0, 0, 65, 2);
      way(check, net, 200, "1 70 1");
      way(check, net, 66, "1 66 2");
    });
  }

  private static void promise6(Sentences s) {
    s.test("Promise 6: IndexOutOfBoundsException if there is no such MACHINE", check -> {
      Refused.bounds(check, BUSY, net -> net.addTunnel(-1, 1), net -> net.addTunnel(4, 1),
          net -> net.addTunnel(8, 1), net -> net.addTunnel(LOW, 1), net -> net.addTunnel(HIGH, 1));
      check.same("the last one", Nets.busy().addTunnel(3, 1), 1);
    });
    s.test("Promise 6: IllegalArgumentException if far is not 0 to 255", check -> {
      Refused.argument(check, BUSY, net -> net.addTunnel(0, -1), net -> net.addTunnel(0, 256),
          net -> net.addTunnel(1, LOW), net -> net.addTunnel(1, HIGH));
      check.same("0", Nets.busy().addTunnel(0, 0), 1);
      check.same("255", Nets.busy().addTunnel(1, 255), 0);
    });
    s.test("Promise 6: IllegalStateException if the MACHINE has 2", check -> {
      Refused.state(check, FULL, net -> net.addTunnel(0, 0), net -> net.addTunnel(0, 255));
      check.same("if it has 1", Nets.busy().addTunnel(0, 49), 1);
    });
    s.test("Promise 6: of several exceptions that named first", check -> {
      Refused.bounds(check, FULL, net -> net.addTunnel(8, 256), net -> net.addTunnel(-1, -1));
      Refused.argument(check, FULL, net -> net.addTunnel(0, 256), net -> net.addTunnel(0, -1));
    });
  }

  private static void promise7(Sentences s) {
    s.test("Promise 7: IndexOutOfBoundsException if there is no such MACHINE", check -> {
      Refused.bounds(check, BUSY, net -> net.addRoute(-1, 1, 1, 1),
          net -> net.addRoute(4, 1, 1, 1), net -> net.addRoute(8, 1, 1, 1),
          net -> net.addRoute(LOW, 1, 1, 1), net -> net.addRoute(HIGH, 1, 1, 1));
      check.same("the last one", Nets.busy().addRoute(3, 1, 1, 1), 1);
    });
    s.test("Promise 7: IllegalArgumentException if address is not 0 to 255", check -> {
      Refused.argument(check, BUSY, net -> net.addRoute(0, -1, 1, 1),
          net -> net.addRoute(0, 256, 1, 1), net -> net.addRoute(0, LOW, 1, 1),
          net -> net.addRoute(0, HIGH, 1, 1));
      check.same("0", Nets.busy().addRoute(0, 0, 1, 1), 2);
      check.same("255", Nets.busy().addRoute(0, 255, 1, 1), 2);
    });
    s.test("Promise 7: IllegalArgumentException if length is not 0 to 8", check -> {
      Refused.argument(check, BUSY, net -> net.addRoute(0, 1, -1, 1),
          net -> net.addRoute(0, 1, 9, 1), net -> net.addRoute(0, 1, LOW, 1),
          net -> net.addRoute(0, 1, HIGH, 1));
      check.same("0", Nets.busy().addRoute(0, 1, 0, 1), 2);
      check.same("8", Nets.busy().addRoute(0, 1, 8, 1), 2);
    });
    s.test("Promise 7: IllegalStateException if it has 6", check -> {
      Refused.state(check, FULL, net -> net.addRoute(0, 0, 0, 0),
          net -> net.addRoute(0, 255, 8, -2));
      SeamarkNet net = Nets.full();
      net.dropRoute(0);
      check.same("if it has 5", net.addRoute(0, 1, 1, 1), 5);
    });
    s.test("Promise 7: of several exceptions that named first", check -> {
      Refused.bounds(check, FULL, net -> net.addRoute(8, 256, 1, 1),
          net -> net.addRoute(-1, 1, 9, 1), net -> net.addRoute(8, 1, 1, -3));
      Refused.argument(check, FULL, net -> net.addRoute(0, 256, 1, 1),
          net -> net.addRoute(0, 1, 9, 1), net -> net.addRoute(0, 1, 1, -3),
          net -> net.addRoute(0, 1, 1, 256));
    });
  }

  private static void promise7Via(Sentences s) {
    s.test("Promise 7: IllegalArgumentException if via is no ADDRESS", check -> {
      Refused.argument(check, BUSY, net -> net.addRoute(0, 1, 1, 256),
          net -> net.addRoute(0, 1, 1, HIGH), net -> net.addRoute(1, 1, 1, 257));
      check.same("0", Nets.busy().addRoute(0, 1, 1, 0), 2);
      check.same("255, though no PORT has it in its NET", Nets.busy().addRoute(0, 1, 1, 255), 2);
    });
    s.test("Promise 7: IllegalArgumentException if via is no TUNNEL of the MACHINE", check -> {
      Refused.argument(check, BUSY, net -> net.addRoute(0, 1, 1, -2),
          net -> net.addRoute(0, 1, 1, -3), net -> net.addRoute(0, 1, 1, LOW),
          net -> net.addRoute(1, 1, 1, -1), net -> net.addRoute(1, 1, 1, -2),
          net -> net.addRoute(2, 1, 1, -1));
      SeamarkNet net = Nets.busy();
      check.same("TUNNEL 0", net.addRoute(0, 1, 1, -1), 2);
      net.addTunnel(0, 9);
      check.same("TUNNEL 1, as there are two", net.addRoute(0, 1, 1, -2), 3);
      check.argument("never TUNNEL 2", () -> net.addRoute(0, 1, 1, -3));
    });
    s.test("Promise 7: VIA -1 - the number of a TUNNEL", check -> {
      SeamarkNet net = withMachines(1);
      net.addTunnel(0, 7);
      net.addTunnel(0, 8);
      net.addRoute(0, 10, 8, -1);
      net.addRoute(0, 11, 8, -2);
      way(check, net, 10, "-2 0 8");
      way(check, net, 11, "-2 1 8");
    });
  }

  private static void promise8(Sentences s) {
    s.test("Promise 8: IndexOutOfBoundsException if there is no such MACHINE", check -> {
      Refused.bounds(check, BUSY, net -> net.dropRoute(-1), net -> net.dropRoute(4),
          net -> net.dropRoute(8), net -> net.dropRoute(LOW), net -> net.dropRoute(HIGH));
      check.same("the last one", Nets.busy().dropRoute(3), 0);
    });
    s.test("Promise 8: IllegalStateException if it has none", check -> {
      Refused.state(check, FULL, net -> net.dropRoute(4), net -> net.dropRoute(7));
      SeamarkNet net = Nets.busy();
      check.same("if it has 1", net.dropRoute(3), 0);
      check.state("none any more", () -> net.dropRoute(3));
      check.state("nor then", () -> net.dropRoute(3));
      check.same("the others have theirs", net.dropRoute(0), 1);
      check.same("a new one is the first one again", net.addRoute(3, 0, 0, 51), 0);
    });
    s.test("Promise 8: returns how many it has then", check -> {
      SeamarkNet net = Nets.full();
      for (int left = 5; left >= 0; left--) {
        check.same("dropRoute", net.dropRoute(0), left);
      }
    });
    s.test("Promise 8: takes the last one away", check -> {
      SeamarkNet net = withPort(0b01000000, 2);
      net.addRoute(0, 0b10000000, 2, 0b01000001);
      net.addRoute(0, 0b11000000, 2, 0b01000010);
      net.dropRoute(0);
      way(check, net, 0b11000000, "-1 -1 -1");
      way(check, net, 0b10000000, "0 65 2");
      check.same("the next one has its number", net.addRoute(0, 0b11000000, 2, 0b01000011), 1);
      way(check, net, 0b11000000, "0 67 2");
    });
  }

  private static void promise9(Sentences s) {
    s.test("Promise 9: IndexOutOfBoundsException if there is no such MACHINE", check -> {
      Refused.bounds(check, BUSY, net -> net.setForwarding(-1, true),
          net -> net.setForwarding(4, false), net -> net.setForwarding(8, true),
          net -> net.setForwarding(LOW, true), net -> net.setForwarding(HIGH, false));
      check.same("the last one", Nets.busy().setForwarding(3, true), false);
    });
    s.test("Promise 9: returns whether it did, also if nothing changes", check -> {
      SeamarkNet net = withMachines(2);
      check.same("it did", net.setForwarding(0, true), true);
      check.same("it did still", net.setForwarding(0, false), true);
      check.same("it did not", net.setForwarding(0, false), false);
      check.same("it did not still", net.setForwarding(0, true), false);
      check.same("it does again", net.setForwarding(0, true), true);
      check.same("the other one did all the time", net.setForwarding(1, true), true);
    });
    s.test("Promise 9: from now on, for what is in a FRAME already, too", check -> {
      SeamarkNet net = Nets.line(100, 100, 100);
      net.send(0, 49, false, 5, 9, false);
      net.step(2);
      net.setForwarding(1, false);
      net.step(1);
      check.same("1 does not FORWARD it", net.gone(), 1);
      net.send(0, 49, false, 5, 9, false);
      net.setForwarding(1, true);
      net.step(60);
      check.same("1 FORWARDS it", View.note(net, 3, 0), "0 17 5 7 1 0");
    });
  }
}
