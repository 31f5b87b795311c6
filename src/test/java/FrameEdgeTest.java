/** The edges of "Terms, 3 FRAMES", each sentence by a test of its own. */
public final class FrameEdgeTest {
  public static void main(String[] args) {
    Sentences s = new Sentences("FrameEdgeTest");
    row(s);
    toHop(s);
    sixWait(s);
    questionAgain(s);
    delivered(s);
    questions(s);
    ownQuestions(s);
    replies(s);
    received(s);
    ttl(s);
    pieces(s);
    heaps(s);
    heapsThatEnd(s);
    answers(s);
    unwrapped(s);
    unwrappedGoesOn(s);
    noted(s);
    gone(s);
    s.end();
  }

  // ---- nets

  /** A street where so many DATA of SIZE 1 WAIT at 0 for 40, an ADDRESS that no PORT has. */
  private static SeamarkNet waiting(int count) {
    SeamarkNet net = Nets.street(40);
    for (int packet = 0; packet < count; packet++) {
      net.send(0, 40, false, 1, 9, false);
    }
    return net;
  }

  // ---- the row

  private static void row(Sentences s) {
    s.test("FRAMES: new ones come to the end of the row", check -> {
      SeamarkNet net = Nets.street(40);
      net.send(0, 34, false, 1, 9, false);
      net.send(1, 35, false, 2, 9, false);
      net.send(2, 33, false, 3, 9, false);
      check.frames(net, "0 0 -1 1 34 0 0 -1", "0 4 -1 1 35 0 0 -1", "0 8 -1 1 33 0 0 -1");
      net.step(1);
      check.frames(net, "0 4 -1 1 35 0 0 -1", "0 8 -1 1 33 0 0 -1", "0 4 0 2 34 0 0 -1");
      net.step(2);
      check.frames(net, "0 4 0 2 34 0 0 -1", "0 8 4 2 35 0 0 -1", "0 0 8 2 33 0 0 -1");
      net.step(1);
      check.frames(net, "0 8 4 2 35 0 0 -1", "0 0 8 2 33 0 0 -1", "0 0 4 0 0 1 0 0");
    });
    s.test("STEP: the first FRAME, which is in the row no more", check -> {
      SeamarkNet net = Nets.street(40);
      net.send(0, 40, false, 1, 9, false);
      net.send(0, 34, false, 2, 9, false);
      check.same("that for 40", net.step(1), 1);
      check.frames(net, "0 0 -1 1 34 0 0 -1");
    });
    s.test("STEP: the last FRAME, and then new ones", check -> {
      SeamarkNet net = Nets.street(40);
      net.send(0, 40, false, 1, 9, false);
      check.same("none is left", net.step(60), 0);
      net.send(0, 34, false, 2, 9, false);
      check.frames(net, "0 0 -1 1 34 0 0 -1");
      net.step(60);
      check.note(net, 1, 0, "0 33 2 9 1 0");
    });
  }

  // ---- to a HOP

  private static void toHop(Sentences s) {
    s.test("HOP: if the MACHINE KNOWS its MARK, in a FRAME at once", check -> {
      SeamarkNet net = Nets.street(40);
      net.send(0, 34, false, 1, 9, false);
      net.step(1);
      net.send(1, 33, false, 2, 9, false);
      check.frames(net, "0 4 0 2 34 0 0 -1", "0 4 0 0 1 2 0 0");
      check.same("nothing WAITS at 1", net.waiting(1), 0);
    });
    s.test("HOP: otherwise it WAITS, and a QUESTION goes to all", check -> {
      SeamarkNet net = waiting(1);
      check.same("it WAITS", net.waiting(0), 1);
      check.frames(net, "0 0 -1 1 40 0 0 -1");
    });
    s.test("HOP: if it is not the only one that WAITS for it, there is no QUESTION", check -> {
      SeamarkNet net = waiting(2);
      check.same("both WAIT", net.waiting(0), 2);
      check.frames(net, "0 0 -1 1 40 0 0 -1");
      net.step(60);
      net.send(0, 40, false, 1, 9, false);
      check.frames(net);
      check.same("three WAIT", net.waiting(0), 3);
    });
    s.test("HOP: of PIECES the first one asks", check -> {
      SeamarkNet net = Nets.street(12);
      net.send(0, 34, false, 48, 9, false);
      check.same("6 WAIT", net.waiting(0), 6);
      check.frames(net, "0 0 -1 1 34 0 0 -1");
    });
    s.test("HOP: those that WAIT for others do not count: each asks for its own", check -> {
      SeamarkNet net = Nets.street(40);
      for (int hop = 40; hop < 46; hop++) {
        net.send(0, hop, false, 1, 9, false);
      }
      check.same("6 QUESTIONS", net.frames(), 6);
      check.same("the last one", View.frame(net, 5), "0 0 -1 1 45 0 0 -1");
    });
    s.test("HOP: it is asked for by the ADDRESS VIA which the ROUTE leads", check -> {
      SeamarkNet net = Nets.line(100, 100, 100);
      net.send(0, 49, false, 1, 9, false);
      check.frames(net, "0 0 -1 1 18 0 0 -1");
    });
  }

  private static void sixWait(Sentences s) {
    s.test("WAITS: 6 at a MACHINE, none is GONE", check -> {
      SeamarkNet net = waiting(6);
      check.same("waiting()", net.waiting(0), 6);
      check.same("gone()", net.gone(), 0);
    });
    s.test("WAITS: as 6 WAIT already, the first one is GONE", check -> {
      SeamarkNet net = Nets.street(40);
      for (int size = 1; size <= 7; size++) {
        net.send(0, 34, false, size, 9, false);
      }
      check.same("waiting()", net.waiting(0), 6);
      check.same("gone()", net.gone(), 1);
      net.step(2);
      check.frames(net, "0 0 4 0 1 2 0 0", "0 0 4 0 2 3 0 0", "0 0 4 0 3 4 0 0",
          "0 0 4 0 4 5 0 0", "0 0 4 0 5 6 0 0", "0 0 4 0 6 7 0 0");
    });
    s.test("WAITS: the first one is GONE without a COMPLAINT", check -> {
      SeamarkNet net = waiting(7);
      check.same("packets()", net.packets(), 7);
      check.same("noted()", net.noted(0), 0);
    });
    s.test("WAITS: for whatever: the first one is GONE that WAITS for another HOP", check -> {
      SeamarkNet net = waiting(1);
      for (int size = 1; size <= 6; size++) {
        net.send(0, 34, false, size, 9, false);
      }
      check.same("that for 40 is GONE", net.gone(), 1);
      net.step(60);
      check.same("all others came", net.noted(1), 6);
      check.same("none WAITS", net.waiting(0), 0);
    });
    s.test("WAITS: PACKETS and PIECES count alike", check -> {
      SeamarkNet net = Nets.street(12);
      net.send(0, 34, false, 8, 9, false);
      net.send(0, 34, false, 16, 9, false);
      net.send(0, 34, false, 24, 9, false);
      check.same("1 and 2 and 3", net.waiting(0), 6);
      check.same("none is GONE", net.gone(), 0);
      net.send(0, 34, false, 16, 9, false);
      check.same("still 6", net.waiting(0), 6);
      check.same("a PACKET and a PIECE are GONE", net.gone(), 2);
      net.step(60);
      check.note(net, 1, 0, "0 33 16 9 3 0");
      check.note(net, 1, 1, "0 33 24 9 2 0");
      check.same("the half of one is KEPT", net.heaps(1), 1);
    });
    s.test("WAITS: a PACKET of 7 PIECES puts its own first one out", check -> {
      SeamarkNet net = Nets.street(12);
      net.send(0, 34, false, 49, 9, false);
      check.same("gone()", net.gone(), 1);
      net.step(2);
      check.same("6 PIECES", net.frames(), 6);
      check.same("from PLACE 8 on", View.frame(net, 0), "0 0 4 0 0 8 8 0");
    });
    s.test("WAITS: 6 at each MACHINE", check -> {
      SeamarkNet net = waiting(6);
      for (int packet = 0; packet < 6; packet++) {
        net.send(1, 41, false, 1, 9, false);
      }
      check.same("6 at 0", net.waiting(0), 6);
      check.same("6 at 1", net.waiting(1), 6);
      check.same("none is GONE", net.gone(), 0);
    });
  }

  private static void questionAgain(Sentences s) {
    s.test("QUESTION: again, as the only one that WAITED for it is GONE", check -> {
      SeamarkNet net = waiting(1);
      for (int packet = 0; packet < 6; packet++) {
        net.send(0, 41, false, 1, 9, false);
      }
      check.same("two were asked for", net.frames(), 2);
      net.send(0, 40, false, 1, 9, false);
      check.same("a third QUESTION", View.frame(net, 2), "0 0 -1 1 40 0 0 -1");
    });
    s.test("QUESTION: again, as the new one for it puts out the only one", check -> {
      SeamarkNet net = waiting(1);
      for (int hop = 41; hop < 46; hop++) {
        net.send(0, hop, false, 1, 9, false);
      }
      check.same("six QUESTIONS", net.frames(), 6);
      net.send(0, 40, false, 1, 9, false);
      check.same("one is GONE", net.gone(), 1);
      check.same("a seventh QUESTION", net.frames(), 7);
      check.same("for the same", View.frame(net, 6), "0 0 -1 1 40 0 0 -1");
    });
    s.test("QUESTION: not again, as one of several that WAIT for it is GONE", check -> {
      SeamarkNet net = waiting(7);
      check.same("one QUESTION", net.frames(), 1);
    });
    s.test("QUESTION: again, as what WAITED was given up", check -> {
      SeamarkNet net = waiting(2);
      net.giveUp(0);
      net.send(0, 40, false, 1, 9, false);
      check.frames(net, "0 0 -1 1 40 0 0 -1", "0 0 -1 1 40 0 0 -1");
    });
  }

  // ---- delivered

  private static void delivered(Sentences s) {
    s.test("Delivered: to the PORT with the MARK, on whatever CABLE that is", check -> {
      SeamarkNet net = Nets.crossed(65, 66, 67);
      net.send(1, 65, false, 3, 9, false);
      check.frames(net, "0 6 1 0 1 3 0 0");
      net.step(1);
      check.note(net, 0, 0, "0 67 3 9 1 0");
      check.same("CABLE 0 carried it", net.carried(0), 1);
    });
    s.test("Delivered: to all: to no PORT on another CABLE", check -> {
      SeamarkNet net = new SeamarkNet();
      net.addCable(40);
      net.addCable(40);
      net.addMachine(false);
      net.addMachine(false);
      net.addPort(0, 0, 33, 3);
      net.addPort(1, 0, 1, 8);
      net.addPort(1, 1, 34, 8);
      net.send(0, 34, false, 1, 9, false);
      check.same("no REPLY", net.step(1), 0);
      check.same("1 KNOWS nothing", net.forget(1), 0);
      check.same("it WAITS on", net.waiting(0), 1);
    });
    s.test("Delivered: to all: to the last one of 32 PORTS as well", check -> {
      SeamarkNet net = new SeamarkNet();
      net.addCable(40);
      for (int machine = 0; machine < 8; machine++) {
        net.addMachine(false);
        for (int port = 0; port < 4; port++) {
          net.addPort(machine, 0, 32 * machine + port, 0);
        }
      }
      net.send(0, 227, true, 1, 9, false);
      check.same("one FRAME to all", net.step(1), 1);
      check.frames(net, "0 31 0 2 227 0 0 -1");
      check.same("carried once", net.carried(0), 1);
      net.step(60);
      check.note(net, 0, 0, "2 227 1 32 1 0");
    });
  }

  private static void questions(Sentences s) {
    s.test("QUESTION: who is asked for KNOWS who asks; others do nothing", check -> {
      SeamarkNet net = Nets.street(40);
      net.send(0, 34, false, 1, 9, false);
      net.step(1);
      check.same("1 KNOWS 33", net.knows(1, 33), 0);
      check.same("1 KNOWS no more", net.forget(1), 1);
      check.same("2 KNOWS nothing", net.forget(2), 0);
      check.same("0 KNOWS nothing yet", net.forget(0), 0);
      check.frames(net, "0 4 0 2 34 0 0 -1");
    });
    s.test("QUESTION: for an ADDRESS that no PORT has: nothing comes of it", check -> {
      SeamarkNet net = waiting(1);
      check.same("no FRAME", net.step(1), 0);
      check.same("a STEP", net.steps(), 1);
      check.same("it WAITS on", net.waiting(0), 1);
      check.same("none is GONE", net.gone(), 0);
    });
    s.test("QUESTION: what WAITS for who asks waits on", check -> {
      SeamarkNet net = Nets.street(40);
      net.send(0, 34, false, 1, 9, false);
      net.send(1, 33, false, 2, 9, false);
      net.step(1);
      check.same("1 KNOWS 33", net.knows(1, 33), 0);
      check.same("it WAITS on", net.waiting(1), 1);
      check.frames(net, "0 4 -1 1 33 0 0 -1", "0 4 0 2 34 0 0 -1");
    });
    s.test("QUESTION: as it WAITS on, what is new goes ahead of it", check -> {
      SeamarkNet net = Nets.street(40);
      net.send(0, 34, false, 1, 9, false);
      net.send(1, 33, false, 2, 9, false);
      net.step(1);
      net.send(1, 33, false, 3, 9, false);
      check.frames(net, "0 4 -1 1 33 0 0 -1", "0 4 0 2 34 0 0 -1", "0 4 0 0 2 3 0 0");
      net.step(60);
      check.note(net, 0, 1, "0 34 3 9 2 0");
      check.note(net, 0, 0, "0 34 2 9 1 0");
    });
    s.test("QUESTION: of a PORT that came behind it, it is heard, too", check -> {
      SeamarkNet net = waiting(1);
      net.addPort(2, 0, 40, 8);
      net.step(1);
      check.frames(net, "0 9 0 2 40 0 0 -1");
      net.step(60);
      check.note(net, 2, 0, "0 33 1 9 0 0");
    });
    s.test("QUESTION: a PORT that comes behind its STEP does not hear it", check -> {
      SeamarkNet net = waiting(1);
      net.step(1);
      net.addPort(2, 0, 40, 8);
      check.same("no FRAME", net.step(60), 0);
      net.send(0, 40, false, 1, 9, false);
      check.same("nor is it asked for again", net.frames(), 0);
    });
  }

  private static void ownQuestions(Sentences s) {
    s.test("QUESTION: all OTHER PORTS: the one that asks for itself hears nothing", check -> {
      SeamarkNet net = Nets.street(40);
      net.addRoute(0, 128, 1, 33);
      net.send(0, 200, false, 1, 9, false);
      check.frames(net, "0 0 -1 1 33 0 0 -1");
      check.same("no REPLY", net.step(1), 0);
      check.same("0 KNOWS nothing", net.forget(0), 0);
      check.same("it WAITS on", net.waiting(0), 1);
    });
    s.test("QUESTION: another PORT of the same MACHINE hears it", check -> {
      SeamarkNet net = Nets.street(40);
      net.addPort(0, 0, 40, 3);
      net.addRoute(0, 128, 1, 40);
      net.send(0, 200, false, 1, 9, false);
      check.frames(net, "0 0 -1 1 40 0 0 -1");
      net.step(1);
      check.same("0 KNOWS itself", net.knows(0, 33), 0);
      check.frames(net, "0 1 0 2 40 0 0 -1");
      net.step(1);
      check.same("and its other PORT", net.knows(0, 40), 1);
      check.frames(net, "0 0 1 0 0 1 0 0");
      net.step(1);
      check.same("without FORWARDING it is GONE", net.gone(), 1);
      check.same("nothing is NOTED", net.noted(0), 0);
    });
  }

  private static void replies(Sentences s) {
    s.test("REPLY: all that WAIT for it go, in order", check -> {
      SeamarkNet net = Nets.street(12);
      net.send(0, 34, false, 3, 9, false);
      net.send(0, 34, false, 12, 9, false);
      net.send(0, 34, false, 1, 9, false);
      net.step(2);
      check.frames(net, "0 0 4 0 0 3 0 0", "0 0 4 0 1 8 0 0", "0 0 4 0 1 4 8 0",
          "0 0 4 0 2 1 0 0");
      check.same("none WAITS", net.waiting(0), 0);
    });
    s.test("REPLY: those that WAIT for others wait on, in order", check -> {
      SeamarkNet net = Nets.street(12);
      net.send(0, 40, false, 5, 9, false);
      net.send(0, 35, false, 1, 9, false);
      net.send(0, 34, false, 2, 9, false);
      net.send(0, 35, false, 3, 9, false);
      net.send(0, 34, false, 4, 9, false);
      net.step(3);
      check.same("40 was asked for, then 35 and 34", net.frames(), 2);
      net.step(1);
      check.frames(net, "0 4 0 2 34 0 0 -1", "0 0 8 0 1 1 0 0", "0 0 8 0 3 3 0 0");
      check.same("three WAIT on", net.waiting(0), 3);
      net.step(1);
      check.same("one WAITS on", net.waiting(0), 1);
      check.frames(net, "0 0 8 0 1 1 0 0", "0 0 8 0 3 3 0 0", "0 0 4 0 2 2 0 0",
          "0 0 4 0 4 4 0 0");
    });
    s.test("REPLY: each goes by the PORT by which it was to go", check -> {
      SeamarkNet net = Nets.street(40);
      net.addCable(50);
      net.send(0, 34, false, 1, 9, false);
      net.addPort(0, 1, 36, 4);
      net.send(0, 34, false, 2, 9, false);
      check.frames(net, "0 0 -1 1 34 0 0 -1");
      net.step(2);
      check.frames(net, "0 0 4 0 0 1 0 0", "1 1 4 0 1 2 0 0");
      net.step(2);
      check.note(net, 1, 0, "0 36 2 9 1 0");
      check.note(net, 1, 1, "0 33 1 9 0 0");
    });
    s.test("REPLY: to a MACHINE where nothing WAITS any more: it KNOWS", check -> {
      SeamarkNet net = Nets.street(40);
      net.send(0, 34, false, 1, 9, false);
      net.giveUp(0);
      check.same("no FRAME is left", net.step(60), 0);
      check.same("0 KNOWS 34", net.knows(0, 34), 4);
    });
    s.test("REPLY: what it let go is not measured or looked up again", check -> {
      SeamarkNet net = Nets.line(100, 100, 100);
      net.send(0, 49, false, 50, 9, true);
      net.dropRoute(0);
      net.setWidth(0, 12);
      net.step(2);
      check.frames(net, "0 0 4 0 0 50 0 0");
    });
  }

  // ---- received, or forwarded

  private static void received(Sentences s) {
    s.test("RECEIVED: if TO is any ADDRESS of the MACHINE, by whichever PORT it comes", check -> {
      SeamarkNet net = Nets.line(100, 100, 100);
      net.addCable(12);
      net.addPort(1, 3, 70, 8);
      net.addPort(1, 3, 71, 8);
      net.setForwarding(1, false);
      for (int to : new int[] {18, 35, 70, 71}) {
        net.send(0, to, false, to, 1, false);
      }
      net.step(60);
      check.same("all four", net.noted(1), 4);
      check.note(net, 1, 0, "0 17 71 1 3 0");
      check.note(net, 1, 3, "0 17 18 1 0 0");
    });
    s.test("RECEIVED: if TO is an ADDRESS of it by then", check -> {
      SeamarkNet net = Nets.line(100, 100, 100);
      net.send(0, 50, false, 5, 1, false);
      net.step(2);
      net.addPort(1, 2, 50, 8);
      net.step(1);
      check.note(net, 1, 0, "0 17 5 1 0 0");
    });
    s.test("Without FORWARDING it is GONE, and nothing is told of it", check -> {
      SeamarkNet net = Nets.line(100, 100, 100);
      net.setForwarding(1, false);
      net.send(0, 49, false, 5, 9, false);
      net.send(0, 49, false, 5, 1, false);
      net.send(0, 90, false, 5, 9, false);
      net.step(60);
      check.same("gone()", net.gone(), 3);
      check.same("no COMPLAINT", net.packets(), 3);
    });
  }

  private static void ttl(Sentences s) {
    s.test("FORWARDING: its TTL is 1 less", check -> {
      SeamarkNet net = Nets.line(100, 100, 100);
      net.send(0, 49, false, 5, 3, false);
      net.send(0, 34, false, 5, 3, false);
      net.send(0, 18, false, 5, 3, false);
      net.step(60);
      check.note(net, 1, 0, "0 17 5 3 2 0");
      check.note(net, 2, 0, "0 17 5 2 1 0");
      check.note(net, 3, 0, "0 17 5 1 0 0");
    });
    s.test("FORWARDING: if its TTL is 0: LOST, ABOUT 0", check -> {
      SeamarkNet net = Nets.line(100, 100, 100);
      net.send(0, 49, false, 5, 2, false);
      net.step(60);
      check.same("3 NOTES nothing", net.noted(3), 0);
      check.note(net, 0, 0, "3 34 0 31 1 0");
      check.same("it is GONE", net.gone(), 1);
    });
    s.test("FORWARDING: LOST ahead of NO WAY", check -> {
      SeamarkNet net = Nets.line(100, 100, 100);
      net.send(0, 90, false, 5, 1, false);
      net.step(60);
      check.note(net, 0, 0, "3 18 0 32 1 0");
      net.send(0, 90, false, 5, 2, false);
      net.step(60);
      check.note(net, 0, 0, "4 18 0 32 3 0");
    });
    s.test("FORWARDING: LOST ahead of TOO WIDE", check -> {
      SeamarkNet net = Nets.line(100, 12, 100);
      net.send(0, 49, false, 50, 1, true);
      net.step(60);
      check.note(net, 0, 0, "3 18 0 32 1 0");
    });
    s.test("FORWARDING: TTL counts for PIECES as for PACKETS", check -> {
      SeamarkNet net = Nets.line(12, 100, 100);
      net.send(0, 49, false, 20, 2, false);
      net.step(60);
      check.same("three PIECES are LOST", net.gone(), 3);
      check.same("one COMPLAINT", net.packets(), 2);
      check.note(net, 0, 0, "3 34 0 31 1 0");
    });
  }

  // ---- PIECES

  private static void pieces(Sentences s) {
    int[][] orders = {{0, 8, 16}, {0, 16, 8}, {8, 0, 16}, {8, 16, 0}, {16, 0, 8}, {16, 8, 0}};
    for (int[] order : orders) {
      String places = order[0] + ", " + order[1] + ", " + order[2];
      s.test("PIECES: whole as all are there, with the TTL of the last: " + places, check -> {
        Ring ring = new Ring();
        int number = ring.send(20);
        int before = ring.net.noted(3);
        for (int at = 0; at < 3; at++) {
          check.same("NOTED before PIECE " + at, ring.net.noted(3), before);
          ring.bring(number, order[at]);
          check.same("heaps behind PIECE " + at, ring.net.heaps(3), at < 2 ? 1 : 0);
        }
        int ttl = ring.ttl(number, order[2]);
        check.same("no other one has that TTL", ttl != ring.ttl(number, order[0])
            && ttl != ring.ttl(number, order[1]), true);
        check.note(ring.net, 3, 0, "0 17 20 " + ttl + " " + number + " 0");
        check.same("none is GONE", ring.net.gone(), 0);
      });
    }
    s.test("PIECES: with others of the same FROM and NUMBER: of no other NUMBER", check -> {
      Ring ring = new Ring();
      int before = ring.net.noted(3);
      int first = ring.send(16);
      int second = ring.send(16);
      ring.bring(first, 0);
      ring.bring(second, 8);
      check.same("two heaps", ring.net.heaps(3), 2);
      check.same("none is whole", ring.net.noted(3), before);
      ring.bring(second, 0);
      check.same("one heap", ring.net.heaps(3), 1);
      ring.bring(first, 8);
      check.same("no heap", ring.net.heaps(3), 0);
      check.same("both are whole", ring.net.noted(3), before + 2);
    });
  }

  private static void heaps(Sentences s) {
    s.test("Heaps: 3 are KEPT, none is GONE", check -> {
      Ring ring = new Ring();
      for (int heap = 1; heap <= 3; heap++) {
        ring.bring(ring.send(16), 0);
        check.same("heaps()", ring.net.heaps(3), heap);
      }
      check.same("gone()", ring.net.gone(), 0);
    });
    s.test("Heaps: as a fourth one begins, that which began first is GONE", check -> {
      Ring ring = new Ring();
      int before = ring.net.noted(3);
      int[] numbers = new int[4];
      for (int heap = 0; heap < 4; heap++) {
        numbers[heap] = ring.send(16);
        ring.bring(numbers[heap], 0);
      }
      check.same("3 heaps", ring.net.heaps(3), 3);
      check.same("one is GONE", ring.net.gone(), 1);
      for (int heap = 3; heap > 0; heap--) {
        ring.bring(numbers[heap], 8);
        check.same("heaps()", ring.net.heaps(3), heap - 1);
        check.same("noted()", ring.net.noted(3), before + 4 - heap);
      }
      ring.bring(numbers[0], 8);
      check.same("the rest of the first one begins anew", ring.net.heaps(3), 1);
      check.same("it is not whole", ring.net.noted(3), before + 3);
    });
    s.test("Heaps: that which began first, though a PIECE of it came last", check -> {
      Ring ring = new Ring();
      int before = ring.net.noted(3);
      int first = ring.send(24);
      ring.bring(first, 0);
      int second = ring.send(16);
      ring.bring(second, 0);
      ring.bring(ring.send(16), 0);
      ring.bring(first, 8);
      check.same("a PIECE more is no heap more", ring.net.heaps(3), 3);
      ring.bring(ring.send(16), 0);
      check.same("one is GONE", ring.net.gone(), 1);
      ring.bring(second, 8);
      check.same("not the second one", ring.net.noted(3), before + 1);
      ring.bring(first, 16);
      check.same("but the first one", ring.net.noted(3), before + 1);
    });
  }

  private static void heapsThatEnd(Sentences s) {
    s.test("Heaps: one that is whole is KEPT no more, and makes room", check -> {
      Ring ring = new Ring();
      int first = ring.send(16);
      ring.bring(first, 0);
      int second = ring.send(16);
      ring.bring(second, 0);
      int third = ring.send(16);
      ring.bring(third, 0);
      ring.bring(second, 8);
      int fourth = ring.send(16);
      ring.bring(fourth, 8);
      check.same("3 heaps", ring.net.heaps(3), 3);
      check.same("none is GONE", ring.net.gone(), 0);
      ring.bring(ring.send(16), 0);
      check.same("now one is GONE", ring.net.gone(), 1);
      int before = ring.net.noted(3);
      ring.bring(fourth, 0);
      ring.bring(third, 8);
      check.same("not the fourth one, nor the third one", ring.net.noted(3), before + 2);
    });
    s.test("Heaps: what comes whole begins none, and puts none out", check -> {
      SeamarkNet net = Nets.street(12);
      net.addTunnel(2, 34);
      net.addRoute(2, 34, 8, 34);
      net.addTunnel(1, 35);
      net.addPort(1, 0, 130, 8);
      net.addRoute(2, 130, 8, -1);
      for (int heap = 0; heap < 3; heap++) {
        net.forget(0);
        net.send(0, 34, false, 49, 9, false);
        net.step(60);
      }
      net.send(2, 34, false, 8, 9, false);
      net.send(2, 34, true, 8, 9, true);
      net.send(2, 130, false, 4, 9, false);
      net.step(60);
      check.same("DATA, and DATA that was WRAPPED", net.noted(1), 2);
      check.same("an ANSWER", net.noted(2), 1);
      check.same("3 heaps", net.heaps(1), 3);
      check.same("a PIECE of each is GONE", net.gone(), 3);
    });
    s.test("Heaps: 3 at each MACHINE", check -> {
      SeamarkNet net = Nets.street(12);
      for (int to = 34; to < 36; to++) {
        for (int heap = 0; heap < 3; heap++) {
          net.forget(0);
          net.send(0, to, false, 49, 9, false);
          net.step(60);
        }
      }
      check.same("3 at 1", net.heaps(1), 3);
      check.same("3 at 2", net.heaps(2), 3);
      check.same("a PIECE of each is GONE", net.gone(), 6);
    });
  }

  // ---- whole ones

  private static void answers(Sentences s) {
    s.test("ASK: the ANSWER is FROM what was TO, by whichever PORT that came", check -> {
      SeamarkNet net = Nets.line(100, 100, 100);
      net.send(0, 51, true, 7, 9, true);
      net.step(60);
      check.note(net, 0, 0, "2 51 7 31 1 0");
    });
    s.test("ASK: the ANSWER is of the same SIZE, 0 or 400, too, and not WHOLE", check -> {
      for (int size = 0; size <= 400; size += 400) {
        SeamarkNet net = Nets.line(200, 200, 12);
        net.send(0, 51, true, size, 9, false);
        net.step(60);
        check.note(net, 0, 0, "2 51 " + size + " 31 1 0");
      }
      SeamarkNet net = Nets.line(60, 100, 100);
      net.send(2, 17, true, 40, 9, true);
      net.step(4);
      net.setWidth(0, 24);
      net.step(60);
      check.note(net, 2, 0, "2 17 40 31 1 0");
      check.same("WHOLE there, in PIECES back", net.carried(0), 2 + 1 + 2);
    });
    s.test("ASK: the ANSWER has TTL 32, whatever that of the ASK was", check -> {
      for (int ttl : new int[] {1, 32, 40}) {
        SeamarkNet net = Nets.street(40);
        net.send(0, 34, true, 7, ttl, false);
        net.step(60);
        check.note(net, 0, 0, "2 34 7 32 1 0");
      }
    });
    s.test("ASK: the ANSWER is ABOUT its NUMBER", check -> {
      SeamarkNet net = Nets.street(40);
      for (int asks = 0; asks < 20; asks++) {
        int number = net.send(asks % 3, 33 + (asks + 1) % 3, true, asks, 9, false);
        net.step(60);
        check.same("ABOUT", net.note(asks % 3, 0, 5), number);
        check.same("NUMBER", net.note(asks % 3, 0, 4), number + 1);
      }
    });
    s.test("ASK: it is not NOTED", check -> {
      SeamarkNet net = Nets.street(40);
      net.send(0, 34, true, 7, 1, false);
      net.step(60);
      check.same("noted(1)", net.noted(1), 0);
    });
  }

  private static void unwrapped(Sentences s) {
    s.test("WRAPPED: without a TUNNEL it is GONE, and nothing is told of it", check -> {
      SeamarkNet net = Nets.line(100, 100, 100);
      net.addTunnel(0, 49);
      net.addRoute(0, 130, 8, -1);
      net.send(0, 130, true, 5, 9, false);
      net.step(60);
      check.same("gone()", net.gone(), 1);
      check.same("no other PACKET comes to be", net.packets(), 2);
    });
    s.test("WRAPPED: with a TUNNEL whose FAR is another one it is GONE", check -> {
      SeamarkNet net = Nets.tunnelled(100);
      net.addTunnel(0, 51);
      net.addRoute(0, 131, 8, -2);
      net.addPort(2, 1, 131, 8);
      net.addTunnel(2, 18);
      net.addTunnel(2, 49);
      net.send(0, 131, false, 5, 9, false);
      net.step(60);
      check.same("gone()", net.gone(), 1);
      check.same("noted(2)", net.noted(2), 0);
    });
    s.test("WRAPPED: the second TUNNEL counts as the first one does", check -> {
      SeamarkNet net = Nets.tunnelled(100);
      net.addTunnel(0, 51);
      net.addRoute(0, 131, 8, -2);
      net.addPort(2, 1, 131, 8);
      net.addTunnel(2, 18);
      net.addTunnel(2, 17);
      net.send(0, 131, false, 5, 9, false);
      net.step(60);
      check.same("gone()", net.gone(), 0);
      check.note(net, 2, 0, "0 17 5 9 0 0");
    });
    s.test("WRAPPED: that which comes is never NOTED itself", check -> {
      SeamarkNet net = Nets.tunnelled(100);
      net.send(0, 130, false, 5, 9, false);
      net.step(60);
      check.same("noted(3)", net.noted(3), 1);
      check.note(net, 3, 0, "0 17 5 9 0 0");
    });
  }

  private static void unwrappedGoesOn(Sentences s) {
    s.test("WRAPPED: the one in it is treated as if it came in a FRAME: FORWARDED", check -> {
      SeamarkNet net = Nets.behind();
      net.setForwarding(3, true);
      net.send(0, 161, false, 5, 2, false);
      net.step(60);
      check.note(net, 4, 0, "0 17 5 1 0 0");
    });
    s.test("WRAPPED: and LOST with TTL 1", check -> {
      SeamarkNet net = Nets.behind();
      net.setForwarding(3, true);
      net.send(0, 161, false, 5, 1, false);
      net.step(60);
      check.same("noted(4)", net.noted(4), 0);
      check.note(net, 0, 0, "3 49 0 30 2 0");
    });
    s.test("WRAPPED: and GONE without FORWARDING", check -> {
      SeamarkNet net = Nets.behind();
      net.send(0, 161, false, 5, 9, false);
      net.step(60);
      check.same("gone()", net.gone(), 1);
      check.same("packets()", net.packets(), 2);
    });
    s.test("WRAPPED: and a PIECE in it is KEPT", check -> {
      SeamarkNet net = Nets.line(16, 100, 100);
      net.addPort(3, 2, 60, 8);
      net.addTunnel(1, 49);
      net.addTunnel(3, 35);
      net.addRoute(1, 60, 8, -1);
      net.send(0, 60, false, 20, 9, false);
      int heaps = 0;
      for (int steps = 0; steps < 60 && net.step(1) > 0; steps++) {
        heaps = Math.max(heaps, net.heaps(3));
      }
      check.same("one heap", heaps, 1);
      check.note(net, 3, 0, "0 17 20 8 0 0");
    });
    s.test("WRAPPED: and a WRAPPED one in it is unwrapped, too", check -> {
      SeamarkNet net = Nets.tunnelInTunnel(100);
      net.send(0, 200, false, 5, 1, true);
      net.step(60);
      check.same("no fourth PACKET", net.packets(), 3);
      check.note(net, 3, 0, "0 17 5 1 0 0");
    });
  }

  private static void noted(Sentences s) {
    s.test("NOTED: the latest 10 are told", check -> {
      SeamarkNet net = Nets.street(40);
      for (int count = 1; count <= 25; count++) {
        net.send(0, 33, false, count, 1, false);
        check.same("noted()", net.noted(0), count);
        int told = Math.min(count, 10);
        check.same("the oldest one", net.note(0, told - 1, 2), count - told + 1);
        check.bounds("the one ahead of it", () -> net.note(0, told, 2));
      }
    });
    s.test("NOTED: DATA, ANSWERS, LOST, NO WAY and TOO WIDE", check -> {
      SeamarkNet net = Nets.line(100, 50, 100);
      net.send(0, 17, false, 1, 9, false);
      net.send(0, 34, true, 1, 9, false);
      net.send(0, 34, true, 1, 1, false);
      net.send(0, 90, true, 1, 9, false);
      net.send(0, 34, true, 60, 9, true);
      net.step(60);
      check.same("noted()", net.noted(0), 5);
      int kinds = 0;
      for (int back = 0; back < 5; back++) {
        kinds |= 1 << net.note(0, back, 0);
      }
      check.same("their KINDS", kinds, 0b111101);
    });
  }

  private static void gone(Sentences s) {
    s.test("GONE: a PIECE counts 1, and so does a PACKET", check -> {
      SeamarkNet net = Nets.line(12, 100, 100);
      net.setForwarding(1, false);
      net.send(0, 49, false, 48, 9, false);
      net.send(1, 33, true, 8, 9, true);
      net.step(60);
      check.same("6 PIECES", net.gone(), 6);
      net.send(0, 49, false, 8, 9, false);
      net.step(60);
      check.same("and a PACKET", net.gone(), 7);
    });
    s.test("GONE: a heap counts 1, however many PIECES it has", check -> {
      SeamarkNet net = Nets.street(12);
      for (int heap = 0; heap < 4; heap++) {
        net.forget(0);
        net.send(0, 34, false, 49, 9, false);
        net.step(60);
        check.same("a PIECE of each, and a heap", net.gone(), heap < 3 ? heap + 1 : 5);
      }
    });
    s.test("GONE: at each MACHINE, the first one and the eighth one, too", check -> {
      SeamarkNet net = new SeamarkNet();
      net.addCable(12);
      for (int machine = 0; machine < 8; machine++) {
        net.addMachine(false);
        net.addPort(machine, 0, 10 * machine, 0);
        net.send(machine, 200, false, 9, 9, true);
        check.same("gone()", net.gone(), machine + 1);
        check.same("it is told there", net.noted(machine), 1);
      }
    });
    s.test("GONE: a WRAPPED PACKET counts 1, with the one in it", check -> {
      SeamarkNet net = Nets.line(100, 100, 100);
      net.addTunnel(0, 49);
      net.addRoute(0, 130, 8, -1);
      net.setForwarding(1, false);
      net.send(0, 130, true, 5, 9, false);
      net.step(60);
      check.same("gone()", net.gone(), 1);
    });
  }
}
