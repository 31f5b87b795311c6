import java.util.function.Supplier;

/** The edges of "Terms, 2 PACKETS" and of promise 10, each sentence by a test of its own. */
public final class PacketEdgeTest {
  private static final int LOW = Integer.MIN_VALUE;
  private static final int HIGH = Integer.MAX_VALUE;
  private static final Supplier<SeamarkNet> BUSY = Nets::busy;

  public static void main(String[] args) {
    Sentences s = new Sentences("PacketEdgeTest");
    promise10(s);
    sizes(s);
    ttls(s);
    numbers(s);
    from(s);
    fromByTunnel(s);
    toItself(s);
    withoutWay(s);
    byTunnel(s);
    byTunnelRefused(s);
    width(s);
    pieces(s);
    piecesOfPieces(s);
    complaints(s);
    noComplaints(s);
    complaintsOfKinds(s);
    s.end();
  }

  // ---- nets

  /** A street where 0 and 1 KNOW one another, behind 3 STEPS; the next NUMBER is 1. */
  private static SeamarkNet knownStreet(int width) {
    SeamarkNet net = Nets.street(width);
    net.send(0, 34, false, 1, 1, false);
    net.step(60);
    return net;
  }

  /** The line where all KNOW the next one, there and back; the next NUMBER is 2. */
  private static SeamarkNet knownLine(int width0, int width1, int width2) {
    SeamarkNet net = Nets.line(width0, width1, width2);
    net.send(0, 49, true, 1, 5, false);
    net.step(60);
    return net;
  }

  // ---- promise 10

  private static void promise10(Sentences s) {
    s.test("Promise 10: IndexOutOfBoundsException if there is no such MACHINE", check -> {
      Refused.bounds(check, BUSY, net -> net.send(-1, 17, true, 1, 1, true),
          net -> net.send(4, 17, true, 1, 1, true), net -> net.send(8, 17, true, 1, 1, true),
          net -> net.send(LOW, 17, true, 1, 1, true), net -> net.send(HIGH, 17, true, 1, 1, true));
      check.same("the last one", Nets.busy().send(3, 49, false, 1, 1, true), 9);
    });
    s.test("Promise 10: IllegalArgumentException if to is not 0 to 255", check -> {
      Refused.argument(check, BUSY, net -> net.send(0, -1, true, 1, 1, true),
          net -> net.send(0, 256, true, 1, 1, true), net -> net.send(0, LOW, true, 1, 1, true),
          net -> net.send(0, HIGH, true, 1, 1, true));
      check.same("0", Nets.busy().send(0, 0, false, 1, 1, true), 9);
      check.same("255", Nets.busy().send(0, 255, false, 1, 1, true), 9);
    });
    s.test("Promise 10: IllegalArgumentException if size is not 0 to 400", check -> {
      Refused.argument(check, BUSY, net -> net.send(0, 17, true, -1, 1, true),
          net -> net.send(0, 17, true, 401, 1, true), net -> net.send(0, 17, true, LOW, 1, true),
          net -> net.send(0, 17, true, HIGH, 1, true));
      check.same("0", Nets.busy().send(0, 17, true, 0, 1, true), 9);
      check.same("400", Nets.busy().send(0, 17, true, 400, 1, true), 9);
    });
    s.test("Promise 10: IllegalArgumentException if ttl is not 1 to 40", check -> {
      Refused.argument(check, BUSY, net -> net.send(0, 17, true, 1, 0, true),
          net -> net.send(0, 17, true, 1, 41, true), net -> net.send(0, 17, true, 1, -1, true),
          net -> net.send(0, 17, true, 1, LOW, true), net -> net.send(0, 17, true, 1, HIGH, true));
      check.same("1", Nets.busy().send(0, 17, true, 1, 1, true), 9);
      check.same("40", Nets.busy().send(0, 17, true, 1, 40, true), 9);
    });
    s.test("Promise 10: of several exceptions that named first", check ->
        Refused.bounds(check, BUSY, net -> net.send(4, 256, true, 1, 1, true),
            net -> net.send(-1, 17, true, 401, 1, true), net -> net.send(4, 17, true, 1, 0, true)));
    s.test("Promise 10: -1 if it does not come to be, and then nothing is changed", check -> {
      SeamarkNet net = Nets.street(40);
      check.same("send", net.send(0, 200, true, 5, 5, false), -1);
      check.same("nothing is changed", View.all(net), View.all(Nets.street(40)));
    });
    s.test("Promise 10: ABOUT 0", check -> {
      SeamarkNet net = knownStreet(40);
      net.send(0, 33, false, 5, 5, false);
      check.note(net, 0, 0, "0 33 5 5 1 0");
    });
  }

  // ---- Terms, 2 PACKETS

  private static void sizes(Sentences s) {
    s.test("SIZE: 0 is the smallest one", check -> {
      SeamarkNet net = knownStreet(12);
      net.send(0, 34, true, 0, 1, true);
      check.frames(net, "0 0 4 0 1 0 0 1");
      net.step(60);
      check.note(net, 0, 0, "2 34 0 32 2 1");
    });
    s.test("SIZE: 400 is the greatest one that is sent", check -> {
      SeamarkNet net = knownStreet(200);
      net.send(0, 34, true, 400, 1, false);
      check.frames(net, "0 0 4 0 1 196 0 1", "0 0 4 0 1 196 196 1", "0 0 4 0 1 8 392 1");
      net.step(60);
      check.note(net, 0, 0, "2 34 400 32 2 1");
    });
    s.test("SIZE: 400 on the smallest WIDTH", check -> {
      SeamarkNet net = knownStreet(12);
      net.send(0, 34, false, 400, 1, false);
      check.same("50 PIECES", net.frames(), 50);
      check.same("the last one", View.frame(net, 49), "0 0 4 0 1 8 392 0");
      net.step(49);
      check.same("one is missing", net.heaps(1), 1);
      net.step(1);
      check.note(net, 1, 0, "0 33 400 1 1 0");
    });
  }

  private static void ttls(Sentences s) {
    s.test("TTL: 1 is the smallest one", check -> {
      SeamarkNet net = Nets.line(100, 100, 100);
      net.send(0, 18, false, 5, 1, false);
      net.step(60);
      check.note(net, 1, 0, "0 17 5 1 0 0");
      net.send(0, 34, false, 5, 1, false);
      net.step(60);
      check.note(net, 0, 0, "3 18 0 32 2 0");
    });
    s.test("TTL: 40 is the greatest one", check -> {
      SeamarkNet net = Nets.line(100, 100, 100);
      net.send(0, 49, false, 5, 40, false);
      net.step(60);
      check.note(net, 3, 0, "0 17 5 38 0 0");
    });
  }

  private static void numbers(Sentences s) {
    s.test("NUMBERS: 0, 1 and so on, as PACKETS come to be", check -> {
      SeamarkNet net = Nets.street(40);
      for (int number = 0; number < 30; number++) {
        check.same("packets()", net.packets(), number);
        check.same("send", net.send(number % 3, 33 + number % 3, false, 1, 1, false), number);
      }
    });
    s.test("NUMBERS: none is taken by what does not come to be, or is refused", check -> {
      SeamarkNet net = Nets.street(40);
      net.send(0, 200, true, 5, 5, false);
      check.argument("refused", () -> net.send(0, 33, true, 401, 5, false));
      check.same("the first one", net.send(0, 33, false, 5, 5, false), 0);
    });
    s.test("NUMBERS: of ANSWERS, WRAPPED PACKETS and COMPLAINTS, too", check -> {
      SeamarkNet net = Nets.tunnelled(100);
      check.same("an ASK to itself", net.send(0, 17, true, 5, 5, false), 0);
      check.note(net, 0, 0, "2 17 5 32 1 0");
      check.same("one that is wrapped", net.send(0, 130, false, 5, 5, false), 2);
      net.step(2);
      check.frames(net, "0 0 4 0 3 9 0 6");
      check.same("one that is TOO WIDE", net.send(0, 49, false, 97, 5, true), 4);
      check.note(net, 0, 0, "5 17 0 32 5 100");
      check.same("the next one", net.send(0, 17, false, 5, 5, false), 6);
    });
    s.test("NUMBERS: PIECES have that of their PACKET", check -> {
      SeamarkNet net = knownStreet(12);
      check.same("send", net.send(0, 34, false, 17, 5, false), 1);
      check.frames(net, "0 0 4 0 1 8 0 0", "0 0 4 0 1 8 8 0", "0 0 4 0 1 1 16 0");
      check.same("the next PACKET", net.send(0, 34, false, 8, 5, false), 2);
    });
  }

  private static void from(Sentences s) {
    s.test("FROM: TO, if that is an ADDRESS of the MACHINE, any of 4", check -> {
      SeamarkNet net = new SeamarkNet();
      net.addCable(100);
      net.addMachine(false);
      for (int port = 0; port < 4; port++) {
        net.addPort(0, 0, 64 + port, 0);
      }
      for (int port = 0; port < 4; port++) {
        net.send(0, 64 + port, false, 5, 5, false);
        check.note(net, 0, 0, "0 " + (64 + port) + " 5 5 " + port + " 0");
      }
    });
    s.test("FROM: otherwise the ADDRESS of the PORT by which the WAY to TO leads", check -> {
      SeamarkNet net = Nets.line(100, 100, 100);
      net.send(1, 17, false, 5, 5, false);
      net.send(1, 49, false, 5, 5, false);
      net.step(60);
      check.note(net, 0, 0, "0 18 5 5 0 0");
      check.note(net, 3, 0, "0 35 5 4 1 0");
    });
    s.test("FROM: without such a PORT the PACKET does not come to be", check -> {
      SeamarkNet net = Nets.line(100, 100, 100);
      check.same("no NET has it", net.send(1, 90, false, 5, 5, false), -1);
      net.addRoute(1, 90, 8, 70);
      check.same("no PORT to VIA", net.send(1, 90, false, 5, 5, false), -1);
      check.same("packets()", net.packets(), 0);
      check.same("gone()", net.gone(), 0);
    });
    s.test("FROM: a COMPLAINT may be FROM the ADDRESS 0, too", check -> {
      SeamarkNet net = new SeamarkNet();
      net.addCable(12);
      net.addMachine(true);
      net.addMachine(true);
      net.addPort(0, 0, 0, 7);
      net.addPort(1, 0, 1, 7);
      net.addRoute(1, 128, 1, 0);
      net.send(1, 200, false, 5, 5, false);
      net.step(60);
      check.note(net, 1, 0, "4 0 0 32 1 0");
      net.send(0, 1, false, 9, 5, true);
      check.note(net, 0, 0, "5 0 0 32 3 12");
    });
    s.test("FROM: a COMPLAINT without such a PORT does not come to be either", check -> {
      SeamarkNet net = Nets.line(100, 100, 100);
      net.dropRoute(2);
      net.send(0, 90, false, 5, 5, false);
      net.send(0, 49, false, 5, 2, false);
      net.addRoute(1, 90, 8, 34);
      net.step(60);
      check.same("both are GONE", net.gone(), 2);
      check.same("no COMPLAINT comes to be", net.packets(), 2);
    });
  }

  private static void fromByTunnel(Sentences s) {
    s.test("FROM: by a TUNNEL it is of the PORT by which the WAY to FAR leads", check -> {
      SeamarkNet net = Nets.line(100, 100, 100);
      net.addPort(3, 2, 60, 8);
      net.addTunnel(1, 49);
      net.addRoute(1, 60, 8, -1);
      net.addTunnel(3, 35);
      check.same("send", net.send(1, 60, false, 5, 5, false), 0);
      net.step(60);
      check.note(net, 3, 0, "0 35 5 5 0 0");
    });
    s.test("FROM: by a TUNNEL without a WAY to FAR the PACKET does not come to be", check -> {
      SeamarkNet net = Nets.line(100, 100, 100);
      net.addTunnel(1, 90);
      net.addRoute(1, 60, 8, -1);
      check.same("send", net.send(1, 60, false, 5, 5, false), -1);
      check.same("packets()", net.packets(), 0);
    });
    s.test("FROM: by a TUNNEL whose FAR is by a TUNNEL it does not come to be", check -> {
      SeamarkNet net = Nets.line(100, 100, 100);
      net.addTunnel(1, 49);
      net.addTunnel(1, 60);
      net.addRoute(1, 60, 8, -1);
      net.addRoute(1, 61, 8, -2);
      net.addRoute(1, 62, 8, -1);
      check.same("by the other one", net.send(1, 61, false, 5, 5, false), -1);
      net.addTunnel(0, 200);
      net.addRoute(0, 200, 8, -1);
      check.same("by itself", net.send(0, 200, false, 5, 5, false), -1);
      check.same("packets()", net.packets(), 0);
      check.same("62 is by a PORT in the end", net.send(1, 62, false, 5, 5, false), 0);
    });
  }

  private static void toItself(Sentences s) {
    s.test("GO OUT: to an ADDRESS of the MACHINE itself: RECEIVED at once", check -> {
      SeamarkNet net = Nets.line(12, 12, 12);
      net.send(2, 51, false, 400, 1, true);
      check.note(net, 2, 0, "0 51 400 1 0 0");
      net.send(2, 34, true, 400, 1, true);
      check.note(net, 2, 0, "2 34 400 32 2 1");
      check.same("without FRAMES", net.frames(), 0);
      check.same("without STEPS", net.steps(), 0);
      check.same("nothing WAITS", net.waiting(2), 0);
    });
    s.test("GO OUT: to itself, also where its WAY to that is none, or by a TUNNEL", check -> {
      SeamarkNet net = Nets.street(40);
      net.addTunnel(0, 34);
      net.addPort(0, 0, 200, 0);
      net.addRoute(0, 200, 8, -1);
      check.same("by a TUNNEL", View.way(net, 0, 200), "-2 0 8");
      net.send(0, 200, false, 5, 1, false);
      check.note(net, 0, 0, "0 200 5 1 0 0");
      net.addPort(1, 0, 201, 0);
      net.addRoute(1, 201, 8, 250);
      net.addPort(2, 0, 202, 1);
      net.addRoute(2, 202, 8, 3);
      check.same("none", View.way(net, 2, 202), "-1 -1 -1");
      net.send(2, 202, true, 6, 1, false);
      check.note(net, 2, 0, "2 202 6 32 2 1");
    });
  }

  private static void withoutWay(Sentences s) {
    s.test("GO OUT: without a WAY: NO WAY, ABOUT 0", check -> {
      SeamarkNet net = Nets.line(100, 100, 100);
      net.send(0, 90, false, 5, 2, false);
      net.step(60);
      check.note(net, 0, 0, "4 18 0 32 1 0");
      check.same("it is GONE", net.gone(), 1);
      net.addRoute(1, 90, 8, 70);
      net.send(0, 90, false, 5, 2, false);
      net.step(60);
      check.note(net, 0, 0, "4 18 0 32 3 0");
    });
    s.test("GO OUT: an ANSWER without a WAY: NO WAY, told to its own MACHINE", check -> {
      SeamarkNet net = Nets.line(100, 100, 100);
      net.dropRoute(3);
      net.send(0, 49, true, 5, 9, false);
      net.step(60);
      check.same("none comes to 0", net.noted(0), 0);
      check.note(net, 3, 0, "4 49 0 32 2 0");
      check.same("the ANSWER is GONE", net.gone(), 1);
    });
  }

  private static void byTunnel(Sentences s) {
    s.test("WRAPPED: TO the FAR, the SIZE 4 more, the next NUMBER", check -> {
      for (int size = 0; size <= 400; size += 100) {
        SeamarkNet net = Nets.tunnelled(200);
        check.same("send", net.send(0, 130, false, size, 1, false), 0);
        check.same("packets()", net.packets(), 2);
        net.step(2);
        int first = Math.min(size + 4, 196);
        check.same("FRAME", View.frame(net, 0), "0 0 4 0 1 " + first + " 0 6");
        check.same("how many", net.frames(), (size + 4 + 195) / 196);
        net.step(60);
        check.note(net, 3, 0, "0 17 " + size + " 1 0 0");
      }
    });
    s.test("WRAPPED: TTL 32, whatever that of the one in it is", check -> {
      for (int ttl : new int[] {1, 32, 40}) {
        SeamarkNet net = Nets.line(100, 100, 100);
        net.addTunnel(0, 100);
        net.addRoute(0, 130, 8, -1);
        net.addRoute(1, 100, 8, 34);
        net.addRoute(2, 100, 8, 35);
        net.send(0, 130, false, 8, ttl, false);
        net.step(60);
        check.same("it is LOST at the end", net.frames(), 0);
        check.note(net, 0, 0, "3 34 0 31 2 0");
        check.same("32 of its FRAMES, 2 of the LOST one, 4 others", net.steps(), 38);
      }
    });
    s.test("WRAPPED: not WHOLE, though the one in it is", check -> {
      SeamarkNet net = Nets.tunnelled(12);
      net.send(0, 130, false, 5, 1, true);
      check.same("PIECES of 8 and 1 WAIT", net.waiting(0), 2);
      net.step(2);
      check.frames(net, "0 0 4 0 1 8 0 6", "0 0 4 0 1 1 8 6");
      net.step(60);
      check.note(net, 3, 0, "0 17 5 1 0 0");
      check.same("nothing is GONE", net.gone(), 0);
    });
    s.test("WRAPPED: a PIECE that is forwarded, by itself", check -> {
      SeamarkNet net = knownLine(16, 100, 100);
      net.addPort(3, 2, 60, 8);
      net.addTunnel(1, 49);
      net.addTunnel(3, 35);
      net.addRoute(1, 60, 8, -1);
      net.send(0, 60, false, 20, 9, false);
      check.frames(net, "0 0 4 0 2 12 0 0", "0 0 4 0 2 8 12 0");
      net.step(2);
      check.frames(net, "1 5 8 0 3 16 0 6", "1 5 8 0 4 12 0 6");
      net.step(60);
      check.note(net, 3, 0, "0 17 20 8 2 0");
    });
    s.test("WRAPPED: TO what is TOO WIDE for a WHOLE one without a TUNNEL", check -> {
      SeamarkNet net = Nets.tunnelled(100);
      net.send(0, 130, false, 400, 1, true);
      check.same("5 PIECES", net.waiting(0), 5);
      net.step(60);
      check.note(net, 3, 0, "0 17 400 1 0 0");
    });
  }

  private static void byTunnelRefused(Sentences s) {
    s.test("By a TUNNEL: if FAR is an ADDRESS of the MACHINE itself: NO WAY, ABOUT 0", check -> {
      SeamarkNet net = Nets.line(100, 100, 100);
      net.addTunnel(1, 35);
      net.addRoute(1, 90, 8, -1);
      net.send(0, 90, false, 5, 9, false);
      net.step(60);
      check.note(net, 0, 0, "4 18 0 32 1 0");
      check.same("its own ones", net.send(1, 90, false, 5, 9, false), 2);
      check.note(net, 1, 0, "4 35 0 32 3 0");
      check.same("they are GONE", net.gone(), 2);
    });
    s.test("By a TUNNEL: if the WAY to FAR is none: NO WAY, ABOUT 0", check -> {
      SeamarkNet net = Nets.line(100, 100, 100);
      net.addTunnel(1, 91);
      net.addRoute(1, 90, 8, -1);
      net.send(0, 90, false, 5, 9, false);
      net.step(60);
      check.note(net, 0, 0, "4 18 0 32 1 0");
      check.same("no WRAPPED one came to be", net.packets(), 2);
    });
    s.test("By a TUNNEL: if the WAY to FAR is by a TUNNEL, too: NO WAY, ABOUT 0", check -> {
      SeamarkNet net = Nets.line(100, 100, 100);
      net.addTunnel(1, 91);
      net.addTunnel(1, 49);
      net.addRoute(1, 90, 8, -1);
      net.addRoute(1, 91, 8, -2);
      net.addRoute(1, 92, 8, -2);
      net.send(0, 90, false, 5, 9, false);
      net.step(60);
      check.note(net, 0, 0, "4 18 0 32 1 0");
      check.same("no WRAPPED one came to be", net.packets(), 2);
      net.send(0, 92, false, 5, 9, false);
      net.step(60);
      check.same("92 is by one TUNNEL only", net.packets(), 4);
    });
  }

  private static void width(Sentences s) {
    for (int width : new int[] {12, 13, 15, 16, 199, 200}) {
      s.test("SIZE + 4 just the WIDTH " + width + ": it goes as it is", check -> {
        for (int whole = 0; whole < 2; whole++) {
          SeamarkNet net = knownStreet(width);
          net.send(0, 34, false, width - 4, 1, whole == 1);
          check.frames(net, "0 0 4 0 1 " + (width - 4) + " 0 0");
        }
      });
      s.test("SIZE + 4 above the WIDTH " + width + " by 1, WHOLE: TOO WIDE, ABOUT it", check -> {
        SeamarkNet net = knownStreet(width);
        check.same("send", net.send(0, 34, false, width - 3, 1, true), 1);
        check.frames(net);
        check.note(net, 0, 0, "5 33 0 32 2 " + width);
        check.same("it is GONE", net.gone(), 1);
      });
      s.test("SIZE + 4 above the WIDTH " + width + " by 1, not WHOLE: it is split", check -> {
        SeamarkNet net = knownStreet(width);
        net.send(0, 34, false, width - 3, 1, false);
        int first = (width - 4) / 4 * 4;
        int second = width - 3 - first;
        check.frames(net, "0 0 4 0 1 " + first + " 0 0",
            "0 0 4 0 1 " + second + " " + first + " 0");
        net.step(2);
        check.note(net, 1, 0, "0 33 " + (width - 3) + " 1 1 0");
      });
    }
    s.test("TOO WIDE: on the way: ABOUT the WIDTH there", check -> {
      SeamarkNet net = Nets.line(100, 60, 50);
      net.send(0, 49, false, 57, 9, true);
      net.step(60);
      check.note(net, 0, 0, "5 18 0 32 1 60");
      net.send(0, 49, false, 47, 9, true);
      net.step(60);
      check.note(net, 0, 0, "5 34 0 31 3 50");
      net.send(0, 49, false, 46, 9, true);
      net.step(60);
      check.note(net, 3, 0, "0 17 46 7 4 0");
    });
  }

  private static void pieces(Sentences s) {
    for (int width = 12; width <= 20; width++) {
      int most = width < 16 ? 8 : width < 20 ? 12 : 16;
      int w = width;
      s.test("PIECES of (W - 4) / 4 * 4: of " + most + " for W " + w, check -> {
        SeamarkNet net = knownStreet(w);
        net.send(0, 34, false, 2 * most + 1, 1, false);
        check.frames(net, "0 0 4 0 1 " + most + " 0 0", "0 0 4 0 1 " + most + " " + most + " 0",
            "0 0 4 0 1 1 " + 2 * most + " 0");
        net.step(60);
        check.note(net, 1, 0, "0 33 " + (2 * most + 1) + " 1 1 0");
      });
    }
    s.test("PIECES: the last one maybe less, but none of 0", check -> {
      SeamarkNet net = knownStreet(12);
      net.send(0, 34, false, 16, 1, false);
      check.frames(net, "0 0 4 0 1 8 0 0", "0 0 4 0 1 8 8 0");
      net.step(2);
      check.note(net, 1, 0, "0 33 16 1 1 0");
      net.send(0, 34, false, 23, 1, false);
      check.frames(net, "0 0 4 0 2 8 0 0", "0 0 4 0 2 8 8 0", "0 0 4 0 2 7 16 0");
      net.step(3);
      check.note(net, 1, 0, "0 33 23 1 2 0");
    });
    s.test("PIECES: an ASK in PIECES is one ASK", check -> {
      SeamarkNet net = knownStreet(12);
      net.send(0, 34, true, 9, 1, false);
      check.frames(net, "0 0 4 0 1 8 0 1", "0 0 4 0 1 1 8 1");
      net.step(1);
      check.same("no ANSWER to a PIECE", net.packets(), 2);
      net.step(1);
      check.frames(net, "0 4 0 0 2 8 0 2", "0 4 0 0 2 1 8 2");
      net.step(2);
      check.note(net, 0, 0, "2 34 9 32 2 1");
    });
  }

  private static void piecesOfPieces(Sentences s) {
    s.test("PLACE: that of the PACKET and what lies ahead of it there", check -> {
      SeamarkNet net = knownLine(40, 16, 100);
      net.send(0, 49, false, 60, 9, false);
      check.frames(net, "0 0 4 0 2 36 0 0", "0 0 4 0 2 24 36 0");
      net.step(2);
      check.frames(net, "1 5 8 0 2 12 0 0", "1 5 8 0 2 12 12 0", "1 5 8 0 2 12 24 0",
          "1 5 8 0 2 12 36 0", "1 5 8 0 2 12 48 0");
    });
    s.test("MORE: the last PIECE of a PIECE with MORE has it, too", check -> {
      SeamarkNet net = knownLine(40, 16, 100);
      net.send(0, 49, false, 60, 9, false);
      net.step(2 + 5 + 3);
      check.same("36 are not the PACKET", net.noted(3), 0);
      check.same("they are KEPT", net.heaps(3), 1);
      net.step(1);
      check.same("nor are 48", net.noted(3), 0);
      net.step(1);
      check.note(net, 3, 0, "0 17 60 7 2 0");
      check.same("nothing is KEPT any more", net.heaps(3), 0);
    });
    s.test("PLACE 0 and no MORE: it is no PIECE, however small", check -> {
      SeamarkNet net = knownStreet(12);
      net.send(0, 34, false, 0, 1, false);
      net.send(0, 34, false, 8, 1, false);
      net.step(1);
      check.note(net, 1, 0, "0 33 0 1 1 0");
      net.step(1);
      check.note(net, 1, 0, "0 33 8 1 2 0");
      check.same("heaps", net.heaps(1), 0);
    });
    s.test("PIECES on a wider CABLE are not put together on the way", check -> {
      SeamarkNet net = knownLine(12, 200, 200);
      net.send(0, 49, false, 10, 9, false);
      net.step(2);
      check.frames(net, "1 5 8 0 2 8 0 0", "1 5 8 0 2 2 8 0");
      check.same("nothing is KEPT by 1", net.heaps(1), 0);
    });
  }

  private static void complaints(Sentences s) {
    s.test("COMPLAIN: it is GONE, counted once", check -> {
      SeamarkNet net = Nets.street(12);
      for (int count = 0; count < 12; count++) {
        check.same("gone()", net.gone(), count);
        net.send(0, 34, false, 9, 1, true);
      }
    });
    s.test("COMPLAIN: a new PACKET to its FROM, of SIZE 0, TTL 32", check -> {
      SeamarkNet net = knownLine(100, 100, 100);
      net.send(0, 90, false, 50, 2, false);
      net.step(1);
      check.frames(net, "0 4 0 0 3 0 0 4");
      net.step(1);
      check.note(net, 0, 0, "4 18 0 32 3 0");
    });
    s.test("COMPLAIN: of a PIECE with the PLACE 0, of no other PIECE", check -> {
      SeamarkNet net = knownLine(20, 100, 100);
      net.send(0, 90, false, 48, 9, false);
      check.frames(net, "0 0 4 0 2 16 0 0", "0 0 4 0 2 16 16 0", "0 0 4 0 2 16 32 0");
      net.step(1);
      check.same("of the first one", net.packets(), 4);
      net.step(2);
      check.same("not of the others", net.packets(), 4);
      check.same("all are GONE", net.gone(), 3);
      net.step(60);
      check.note(net, 0, 0, "4 18 0 32 3 0");
    });
    s.test("COMPLAIN: of a WRAPPED PACKET at the FROM of that", check -> {
      SeamarkNet net = Nets.line(100, 100, 100);
      net.addTunnel(1, 60);
      net.addRoute(1, 90, 8, -1);
      net.addRoute(1, 60, 8, 34);
      net.dropRoute(2);
      net.addRoute(2, 60, 8, 70);
      net.send(0, 90, false, 5, 9, false);
      net.step(60);
      check.same("nothing for 0", net.noted(0), 0);
      check.note(net, 1, 0, "4 34 0 32 2 0");
    });
  }

  private static void noComplaints(Sentences s) {
    s.test("COMPLAIN: of a COMPLAINT there is none: LOST", check -> {
      SeamarkNet net = knownLine(100, 100, 100);
      net.send(0, 49, false, 5, 1, false);
      noneOfTheComplaint(check, net);
    });
    s.test("COMPLAIN: of a COMPLAINT there is none: NO WAY", check -> {
      SeamarkNet net = knownLine(100, 100, 100);
      net.send(0, 90, false, 5, 9, false);
      noneOfTheComplaint(check, net);
    });
    s.test("COMPLAIN: of a COMPLAINT there is none: TOO WIDE", check -> {
      SeamarkNet net = knownLine(100, 50, 100);
      net.send(0, 49, false, 50, 9, true);
      noneOfTheComplaint(check, net);
    });
    s.test("COMPLAIN: of a COMPLAINT that is LOST there is none", check -> {
      SeamarkNet net = Nets.line(100, 100, 100);
      net.send(0, 90, false, 5, 9, false);
      net.addRoute(1, 17, 8, 34);
      net.step(60);
      check.same("it went round, and is GONE, too", net.gone(), 2);
      check.same("without another one", net.packets(), 2);
      check.same("no FRAMES are left", net.frames(), 0);
    });
  }

  /** The COMPLAINT comes to be at 1, which KNOWS 17 no more, and is given up there. */
  private static void noneOfTheComplaint(Check check, SeamarkNet net) {
    net.forget(1);
    net.step(1);
    check.same("the COMPLAINT", net.packets(), 4);
    check.same("it WAITS", net.waiting(1), 1);
    check.same("it is given up", net.giveUp(1), 1);
    check.same("no other one comes to be", net.packets(), 4);
    check.same("both are GONE", net.gone(), 2);
    check.same("nothing is NOTED", net.noted(1), 0);
    net.step(60);
    check.same("nor told: what 0 NOTED is the ANSWER before", net.noted(0), 1);
  }

  private static void complaintsOfKinds(Sentences s) {
    s.test("COMPLAIN: of DATA", check -> {
      SeamarkNet net = Nets.street(40);
      net.send(0, 34, false, 5, 1, false);
      net.giveUp(0);
      check.note(net, 0, 0, "4 33 0 32 1 1");
    });
    s.test("COMPLAIN: of an ASK", check -> {
      SeamarkNet net = Nets.street(40);
      net.send(0, 34, true, 5, 1, false);
      net.giveUp(0);
      check.note(net, 0, 0, "4 33 0 32 1 1");
    });
    s.test("COMPLAIN: of an ANSWER", check -> {
      SeamarkNet net = Nets.street(40);
      net.send(0, 34, true, 5, 1, false);
      net.step(2);
      net.forget(1);
      net.step(1);
      check.same("it WAITS", net.giveUp(1), 1);
      check.note(net, 1, 0, "4 34 0 32 2 1");
    });
    s.test("COMPLAIN: of a WRAPPED PACKET", check -> {
      SeamarkNet net = Nets.tunnelled(100);
      net.send(0, 130, true, 5, 1, false);
      check.same("it WAITS", net.giveUp(0), 1);
      check.note(net, 0, 0, "4 17 0 32 2 1");
    });
  }
}
