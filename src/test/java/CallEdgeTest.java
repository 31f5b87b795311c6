import java.util.function.Supplier;

/** The edges of promises 11 to 27, each sentence by a test of its own. */
public final class CallEdgeTest {
  private static final int LOW = Integer.MIN_VALUE;
  private static final int HIGH = Integer.MAX_VALUE;
  private static final Supplier<SeamarkNet> EMPTY = SeamarkNet::new;
  private static final Supplier<SeamarkNet> BUSY = Nets::busy;
  private static final Supplier<SeamarkNet> FULL = Nets::full;

  public static void main(String[] args) {
    Sentences s = new Sentences("CallEdgeTest");
    promise11(s);
    promise12(s);
    promise13(s);
    promise13Complaints(s);
    promises14to18(s);
    promise19(s);
    promise20(s);
    promise21(s);
    promise22(s);
    promise23(s);
    promise24(s);
    promise25(s);
    promise26(s);
    promise27(s);
    s.end();
  }

  private static int addressOf(int mark) {
    return mark == 31 ? 255 : mark == 30 ? 0 : mark + 1;
  }

  // ---- packets and steps

  private static void promise11(Sentences s) {
    s.test("Promise 11: IllegalArgumentException if steps is not 1 to 60", check -> {
      Refused.argument(check, BUSY, net -> net.step(0), net -> net.step(61), net -> net.step(-1),
          net -> net.step(LOW), net -> net.step(HIGH));
      Refused.argument(check, EMPTY, net -> net.step(0), net -> net.step(61));
      check.same("1", new SeamarkNet().step(1), 0);
      check.same("60", new SeamarkNet().step(60), 0);
    });
    s.test("Promise 11: as long as there are FRAMES: without any no STEPS are made", check -> {
      SeamarkNet net = Nets.street(40);
      check.same("none is left", net.step(60), 0);
      check.same("steps()", net.steps(), 0);
      net.send(0, 34, false, 1, 1, false);
      check.same("none is left", net.step(60), 0);
      check.same("steps() are three", net.steps(), 3);
      check.same("none is left", net.step(1), 0);
      check.same("steps() are three still", net.steps(), 3);
    });
    s.test("Promise 11: how many at most: 1", check -> {
      SeamarkNet net = Nets.street(40);
      net.send(0, 34, false, 1, 1, false);
      for (int steps = 1; steps <= 3; steps++) {
        check.same("one is left", net.step(1), steps < 3 ? 1 : 0);
        check.same("steps()", net.steps(), steps);
      }
    });
    s.test("Promise 11: how many at most: 60", check -> {
      SeamarkNet net = Nets.street(12);
      net.send(0, 34, false, 1, 1, false);
      net.step(3);
      net.send(0, 34, false, 400, 1, false);
      net.send(0, 34, false, 88, 1, false);
      check.same("61 FRAMES", net.frames(), 61);
      check.same("one is left", net.step(60), 1);
      check.same("steps()", net.steps(), 63);
    });
    s.test("Promise 11: returns how many FRAMES are left, new ones, too", check -> {
      SeamarkNet net = Nets.line(100, 12, 100);
      net.send(0, 34, false, 24, 5, false);
      for (int left : new int[] {1, 1, 1, 1, 3, 2, 1, 0, 0}) {
        check.same("step(1)", net.step(1), left);
        check.same("frames()", net.frames(), left);
      }
    });
  }

  private static void promise12(Sentences s) {
    s.test("Promise 12: IndexOutOfBoundsException if there is no such MACHINE", check -> {
      Refused.bounds(check, BUSY, net -> net.forget(-1), net -> net.forget(4),
          net -> net.forget(8), net -> net.forget(LOW), net -> net.forget(HIGH));
      check.same("the last one", Nets.busy().forget(3), 1);
    });
    s.test("Promise 12: returns of how many ADDRESSES it KNEW the MARK: 0", check -> {
      SeamarkNet net = Nets.street(40);
      check.same("0", net.forget(0), 0);
      check.same("0 again", net.forget(0), 0);
    });
    s.test("Promise 12: returns of how many ADDRESSES it KNEW the MARK: 28", check -> {
      SeamarkNet net = new SeamarkNet();
      net.addCable(40);
      for (int mark = 0; mark < 32; mark++) {
        if (mark % 4 == 0) {
          net.addMachine(false);
        }
        net.addPort(mark / 4, 0, addressOf(mark), 0);
      }
      for (int mark = 4; mark < 32; mark++) {
        net.send(0, addressOf(mark), false, 1, 1, false);
        net.step(60);
      }
      check.same("0 KNOWS 255", net.knows(0, 255), 31);
      check.same("0 KNOWS 0", net.knows(0, 0), 30);
      check.same("28 of the other MACHINES", net.forget(0), 28);
      check.same("0 KNOWS 255 no more", net.knows(0, 255), -1);
      check.same("0 KNOWS 0 no more", net.knows(0, 0), -1);
      check.same("none any more", net.forget(0), 0);
      check.same("7 KNOWS on", net.forget(7), 1);
    });
    s.test("Promise 12: an ADDRESS that it learns of twice counts once", check -> {
      SeamarkNet net = Nets.street(40);
      net.send(0, 34, false, 1, 1, false);
      net.send(1, 33, false, 1, 1, false);
      net.step(60);
      check.same("34", net.forget(0), 1);
      check.same("33", net.forget(1), 1);
    });
    s.test("Promise 12: what WAITS waits on, FRAMES stay in the row", check -> {
      SeamarkNet net = Nets.street(40);
      net.send(0, 40, false, 1, 1, false);
      net.send(0, 34, false, 1, 1, false);
      net.step(3);
      check.same("34 was KNOWN", net.forget(0), 1);
      check.same("one WAITS", net.waiting(0), 1);
      check.same("one is in a FRAME", View.frame(net, 0), "0 0 4 0 1 1 0 0");
      net.send(0, 34, false, 1, 1, false);
      check.same("34 is asked for again", View.frame(net, 1), "0 0 -1 1 34 0 0 -1");
    });
  }

  private static void promise13(Sentences s) {
    s.test("Promise 13: IndexOutOfBoundsException if there is no such MACHINE", check -> {
      Refused.bounds(check, BUSY, net -> net.giveUp(-1), net -> net.giveUp(4),
          net -> net.giveUp(8), net -> net.giveUp(LOW), net -> net.giveUp(HIGH));
      check.same("the last one", Nets.busy().giveUp(3), 0);
    });
    s.test("Promise 13: returns how many they were: 0, and nothing is changed", check -> {
      SeamarkNet net = Nets.busy();
      check.same("giveUp", net.giveUp(1), 0);
      check.same("nothing is changed", View.all(net), View.all(Nets.busy()));
    });
    s.test("Promise 13: returns how many they were: 6, of 7 that were sent", check -> {
      SeamarkNet net = Nets.street(40);
      for (int packet = 0; packet < 7; packet++) {
        net.send(0, 40, false, 1, 1, false);
      }
      check.same("giveUp", net.giveUp(0), 6);
      check.same("waiting()", net.waiting(0), 0);
      check.same("gone()", net.gone(), 7);
      check.same("6 COMPLAINTS", net.noted(0), 6);
      check.same("giveUp again", net.giveUp(0), 0);
    });
    s.test("Promise 13: at this MACHINE only", check -> {
      SeamarkNet net = Nets.street(40);
      net.send(0, 40, false, 1, 1, false);
      net.send(1, 40, false, 1, 1, false);
      net.giveUp(0);
      check.same("at 1 it WAITS on", net.waiting(1), 1);
    });
    s.test("Promise 13: PACKETS and PIECES, for whatever they WAIT", check -> {
      SeamarkNet net = Nets.street(12);
      net.send(0, 40, false, 8, 1, false);
      net.send(0, 41, false, 24, 1, false);
      net.send(0, 42, true, 8, 1, true);
      check.same("giveUp", net.giveUp(0), 5);
      check.same("gone()", net.gone(), 5);
      check.same("of one PIECE of three", net.noted(0), 3);
    });
    s.test("Promise 13: the QUESTION stays in the row, and a REPLY finds nothing", check -> {
      SeamarkNet net = Nets.street(40);
      net.send(0, 34, false, 1, 1, false);
      net.giveUp(0);
      check.same("QUESTION", View.frame(net, 0), "0 0 -1 1 34 0 0 -1");
      check.same("REPLY", net.step(1), 1);
      check.same("no more", net.step(1), 0);
      check.same("noted(1)", net.noted(1), 0);
    });
  }

  private static void promise13Complaints(Sentences s) {
    s.test("Promise 13: NO WAY, ABOUT 1", check -> {
      SeamarkNet net = Nets.street(40);
      net.send(0, 40, false, 9, 1, false);
      net.giveUp(0);
      check.note(net, 0, 0, "4 33 0 32 1 1");
    });
    s.test("Promise 13: one by one, from the first one on", check -> {
      SeamarkNet net = Nets.line(100, 100, 100);
      net.send(1, 20, false, 9, 1, false);
      net.send(1, 40, false, 9, 1, false);
      net.send(1, 21, false, 9, 1, false);
      net.giveUp(1);
      check.note(net, 1, 2, "4 18 0 32 3 1");
      check.note(net, 1, 1, "4 35 0 32 4 1");
      check.note(net, 1, 0, "4 18 0 32 5 1");
    });
    s.test("Promise 13: they wait no more, and then: a COMPLAINT that WAITS stays", check -> {
      SeamarkNet net = Nets.line(100, 100, 100);
      net.addRoute(1, 90, 8, 40);
      net.send(0, 90, false, 9, 9, false);
      net.step(60);
      net.forget(1);
      check.same("giveUp", net.giveUp(1), 1);
      check.same("the COMPLAINT WAITS for 17", net.waiting(1), 1);
      check.same("only the first one is GONE", net.gone(), 1);
      net.step(60);
      check.note(net, 0, 0, "4 18 0 32 1 1");
    });
    s.test("Promise 13: six COMPLAINTS that WAIT put none out", check -> {
      SeamarkNet net = Nets.line(100, 100, 100);
      net.addRoute(1, 90, 8, 40);
      for (int packet = 0; packet < 6; packet++) {
        net.send(0, 90, false, 9, 9, false);
      }
      net.step(60);
      net.forget(1);
      check.same("giveUp", net.giveUp(1), 6);
      check.same("six WAIT", net.waiting(1), 6);
      check.same("six are GONE", net.gone(), 6);
      check.same("one QUESTION", net.frames(), 1);
      net.step(60);
      check.same("all are told", net.noted(0), 6);
      check.note(net, 0, 5, "4 18 0 32 6 1");
      check.note(net, 0, 0, "4 18 0 32 11 1");
    });
    s.test("Promise 13: of a COMPLAINT that WAITS there is none", check -> {
      SeamarkNet net = Nets.line(100, 100, 100);
      net.send(0, 90, false, 9, 9, false);
      net.step(2);
      net.forget(1);
      net.step(1);
      check.same("giveUp", net.giveUp(1), 1);
      check.same("packets()", net.packets(), 2);
      check.same("gone()", net.gone(), 2);
    });
  }

  // ---- what is asked

  private static void promises14to18(Sentences s) {
    s.test("Promise 14: machines(), from 0 to 8", check -> {
      SeamarkNet net = new SeamarkNet();
      for (int count = 0; count < 8; count++) {
        check.same("machines()", net.machines(), count);
        net.addMachine(true);
      }
      check.same("machines()", net.machines(), 8);
      check.state("a ninth one", () -> net.addMachine(true));
      check.same("machines() still", net.machines(), 8);
    });
    s.test("Promise 15: packets(): each that came to be, PIECES not", check -> {
      SeamarkNet net = Nets.street(12);
      check.same("none", net.packets(), 0);
      net.send(0, 200, false, 9, 9, false);
      check.same("none still", net.packets(), 0);
      net.send(0, 34, true, 48, 9, false);
      check.same("one in 6 PIECES", net.packets(), 1);
      net.step(60);
      check.same("and its ANSWER", net.packets(), 2);
      net.send(0, 34, true, 48, 9, true);
      check.same("one that is GONE, and its COMPLAINT", net.packets(), 4);
    });
    s.test("Promise 16: steps(): those that were made, none in a trial", check -> {
      SeamarkNet net = Nets.street(40);
      check.same("none", net.steps(), 0);
      net.hops(0, 34);
      net.whoTells(0, 34, 9);
      net.widest(0, 34);
      check.same("none still", net.steps(), 0);
      net.send(0, 34, true, 9, 9, false);
      net.step(60);
      check.same("four", net.steps(), 4);
    });
    s.test("Promise 17: gone(): 0 without any, none in a trial", check -> {
      SeamarkNet net = Nets.street(40);
      check.same("none", net.gone(), 0);
      check.same("a trial that is TOO WIDE first", net.widest(0, 34), 36);
      check.same("none still", net.gone(), 0);
    });
    s.test("Promise 18: frames(): 0 without any", check -> {
      SeamarkNet net = Nets.street(40);
      check.same("none", net.frames(), 0);
      net.send(0, 34, true, 9, 9, false);
      check.same("one", net.frames(), 1);
      net.step(60);
      check.same("none again", net.frames(), 0);
    });
    s.test("Promise 18: frames(): thousands", check -> {
      SeamarkNet net = Nets.street(12);
      net.send(0, 34, true, 1, 9, false);
      net.step(60);
      for (int packet = 1; packet <= 100; packet++) {
        net.send(0, 34, false, 400, 9, false);
        check.same("frames()", net.frames(), 50 * packet);
      }
      check.same("the last one", View.frame(net, 4999), "0 0 4 0 101 8 392 0");
    });
  }

  private static void promise19(Sentences s) {
    s.test("Promise 19: IndexOutOfBoundsException if there is no such FRAME", check -> {
      Refused.bounds(check, BUSY, net -> net.frame(-1, 0), net -> net.frame(3, 0),
          net -> net.frame(4, 7), net -> net.frame(LOW, 0), net -> net.frame(HIGH, 0));
      check.same("the first one", Nets.busy().frame(0, 1), 9);
      check.same("the last one", Nets.busy().frame(2, 1), 0);
      Refused.bounds(check, EMPTY, net -> net.frame(0, 0), net -> net.frame(-1, 0));
    });
    s.test("Promise 19: IllegalArgumentException if what is not 0 to 7", check -> {
      Refused.argument(check, BUSY, net -> net.frame(0, -1), net -> net.frame(0, 8),
          net -> net.frame(2, LOW), net -> net.frame(2, HIGH));
      check.same("0", Nets.busy().frame(0, 0), 2);
      check.same("7", Nets.busy().frame(0, 7), 1);
    });
    s.test("Promise 19: of several exceptions that named first", check ->
        Refused.bounds(check, BUSY, net -> net.frame(3, 8), net -> net.frame(-1, -1)));
    s.test("Promise 19: a QUESTION: to -1, the ADDRESS, 0 and 0, KIND -1", check -> {
      SeamarkNet net = Nets.line(50, 60, 70);
      net.send(2, 52, false, 9, 9, false);
      check.same("FRAME", View.frame(net, 0), "2 9 -1 1 52 0 0 -1");
    });
    s.test("Promise 19: a REPLY: the ADDRESS, 0 and 0, KIND -1", check -> {
      SeamarkNet net = Nets.line(50, 60, 70);
      net.send(2, 49, false, 9, 9, false);
      net.step(1);
      check.same("FRAME", View.frame(net, 0), "2 12 9 2 49 0 0 -1");
    });
    s.test("Promise 19: a PACKET: its NUMBER, SIZE, PLACE 0, KIND", check -> {
      SeamarkNet net = Nets.line(50, 60, 70);
      net.send(2, 51, false, 9, 9, false);
      net.send(2, 49, true, 9, 9, false);
      net.step(2);
      check.same("FRAME", View.frame(net, 0), "2 9 12 0 1 9 0 1");
    });
    s.test("Promise 19: a PIECE: its SIZE and PLACE, the NUMBER of its PACKET", check -> {
      SeamarkNet net = Nets.line(50, 60, 16);
      net.send(2, 51, false, 9, 9, false);
      net.send(2, 49, true, 25, 9, false);
      net.step(2);
      check.same("the first one", View.frame(net, 0), "2 9 12 0 1 12 0 1");
      check.same("the last one", View.frame(net, 2), "2 9 12 0 1 1 24 1");
    });
  }

  private static void promise20(Sentences s) {
    s.test("Promise 20: IndexOutOfBoundsException if there is no such MACHINE", check -> {
      Refused.bounds(check, BUSY, net -> net.knows(-1, 17), net -> net.knows(4, 17),
          net -> net.knows(8, 17), net -> net.knows(LOW, 17), net -> net.knows(HIGH, 17));
      check.same("the last one", Nets.busy().knows(3, 51), 9);
    });
    s.test("Promise 20: IllegalArgumentException if address is not 0 to 255", check -> {
      Refused.argument(check, BUSY, net -> net.knows(0, -1), net -> net.knows(0, 256),
          net -> net.knows(0, LOW), net -> net.knows(0, HIGH));
      check.same("0", Nets.busy().knows(0, 0), -1);
      check.same("255", Nets.busy().knows(0, 255), -1);
    });
    s.test("Promise 20: of several exceptions that named first", check ->
        Refused.bounds(check, BUSY, net -> net.knows(4, 256), net -> net.knows(-1, -1)));
    s.test("Promise 20: -1 if it KNOWS none, its own one, too", check -> {
      SeamarkNet net = Nets.street(40);
      net.send(0, 34, false, 9, 9, false);
      net.step(60);
      for (int address = 0; address < 256; address++) {
        check.same("of " + address, net.knows(0, address), address == 34 ? 4 : -1);
      }
    });
    s.test("Promise 20: the MARK 0 is one that it may KNOW", check -> {
      SeamarkNet net = Nets.street(40);
      net.send(1, 33, false, 9, 9, false);
      net.step(60);
      check.same("knows()", net.knows(1, 33), 0);
      check.same("forget()", net.forget(1), 1);
    });
  }

  private static void promise21(Sentences s) {
    s.test("Promise 21: IndexOutOfBoundsException if there is no such MACHINE", check -> {
      Refused.bounds(check, BUSY, net -> net.waiting(-1), net -> net.waiting(4),
          net -> net.waiting(8), net -> net.waiting(LOW), net -> net.waiting(HIGH));
      Refused.bounds(check, FULL, net -> net.waiting(8), net -> net.waiting(-1));
      check.same("the last one", Nets.full().waiting(7), 0);
    });
    s.test("Promise 21: waiting(), from 0 to 6", check -> {
      SeamarkNet net = Nets.street(40);
      for (int count = 0; count < 10; count++) {
        check.same("waiting()", net.waiting(0), Math.min(count, 6));
        net.send(0, 40 + count % 3, false, 9, 9, false);
      }
      check.same("none at 1", net.waiting(1), 0);
    });
  }

  private static void promise22(Sentences s) {
    s.test("Promise 22: IndexOutOfBoundsException if there is no such MACHINE", check -> {
      Refused.bounds(check, BUSY, net -> net.heaps(-1), net -> net.heaps(4),
          net -> net.heaps(8), net -> net.heaps(LOW), net -> net.heaps(HIGH));
      check.same("the last one", Nets.busy().heaps(3), 1);
    });
    s.test("Promise 22: heaps(), from 0 to 3", check -> {
      SeamarkNet net = Nets.street(12);
      for (int count = 0; count < 6; count++) {
        check.same("heaps()", net.heaps(1), Math.min(count, 3));
        net.forget(0);
        net.send(0, 34, false, 49, 9, false);
        net.step(60);
      }
      check.same("none at 0", net.heaps(0), 0);
    });
  }

  private static void promise23(Sentences s) {
    s.test("Promise 23: IndexOutOfBoundsException if there is no such MACHINE", check -> {
      Refused.bounds(check, BUSY, net -> net.noted(-1), net -> net.noted(4),
          net -> net.noted(8), net -> net.noted(LOW), net -> net.noted(HIGH));
      check.same("the last one", Nets.busy().noted(3), 0);
    });
    s.test("Promise 23: all together, more than are told", check -> {
      SeamarkNet net = Nets.street(40);
      for (int count = 0; count < 200; count++) {
        check.same("noted()", net.noted(1), count);
        net.send(1, 34, false, 9, 9, false);
      }
      check.same("none by 0", net.noted(0), 0);
    });
  }

  private static void promise24(Sentences s) {
    s.test("Promise 24: IndexOutOfBoundsException if there is no such MACHINE", check -> {
      Refused.bounds(check, BUSY, net -> net.note(-1, 0, 0), net -> net.note(4, 0, 0),
          net -> net.note(8, 0, 0), net -> net.note(LOW, 0, 0), net -> net.note(HIGH, 0, 0));
      check.same("the first one", Nets.busy().note(0, 0, 2), 4);
    });
    s.test("Promise 24: IndexOutOfBoundsException if there were not so many", check -> {
      Refused.bounds(check, BUSY, net -> net.note(0, 5, 0), net -> net.note(0, 9, 0),
          net -> net.note(1, 0, 0));
      check.same("there were 5", Nets.busy().note(0, 4, 2), 0);
    });
    s.test("Promise 24: IndexOutOfBoundsException if back is not 0 to 9", check -> {
      Supplier<SeamarkNet> many = () -> {
        SeamarkNet net = Nets.busy();
        for (int size = 5; size < 20; size++) {
          net.send(0, 17, false, size, 9, false);
        }
        return net;
      };
      Refused.bounds(check, many, net -> net.note(0, -1, 0), net -> net.note(0, 10, 0),
          net -> net.note(0, 19, 0), net -> net.note(0, LOW, 0), net -> net.note(0, HIGH, 0));
      check.same("0", many.get().note(0, 0, 2), 19);
      check.same("9", many.get().note(0, 9, 2), 10);
    });
    s.test("Promise 24: IllegalArgumentException if what is not 0 to 5", check -> {
      Refused.argument(check, BUSY, net -> net.note(0, 0, -1), net -> net.note(0, 0, 6),
          net -> net.note(0, 4, LOW), net -> net.note(0, 4, HIGH));
      check.same("0", Nets.busy().note(0, 0, 0), 0);
      check.same("5", Nets.busy().note(0, 0, 5), 0);
    });
    s.test("Promise 24: of several exceptions that named first", check ->
        Refused.bounds(check, BUSY, net -> net.note(4, 0, 6), net -> net.note(0, 5, 6),
            net -> net.note(0, 10, -1), net -> net.note(0, -1, 6)));
    s.test("Promise 24: 0 for the one NOTED last", check -> {
      SeamarkNet net = Nets.street(40);
      for (int size = 0; size < 40; size++) {
        net.send(0, 33, false, size, size + 1, false);
        check.note(net, 0, 0, "0 33 " + size + " " + (size + 1) + " " + size + " 0");
      }
      check.note(net, 0, 9, "0 33 30 31 30 0");
    });
    s.test("Promise 24: its TTL, as it came", check -> {
      SeamarkNet net = Nets.line(100, 100, 100);
      net.send(0, 34, false, 9, 40, false);
      net.send(2, 34, false, 9, 1, false);
      net.step(60);
      check.note(net, 2, 1, "0 34 9 1 1 0");
      check.note(net, 2, 0, "0 17 9 39 0 0");
    });
  }

  private static void promise25(Sentences s) {
    s.test("Promise 25: IndexOutOfBoundsException if there is no such MACHINE", check -> {
      Refused.bounds(check, BUSY, net -> net.way(-1, 17, 0), net -> net.way(4, 17, 0),
          net -> net.way(8, 17, 0), net -> net.way(LOW, 17, 0), net -> net.way(HIGH, 17, 0));
      check.same("the last one", View.way(Nets.busy(), 3, 17), "0 51 0");
    });
    s.test("Promise 25: IllegalArgumentException if to is not 0 to 255", check -> {
      Refused.argument(check, BUSY, net -> net.way(0, -1, 0), net -> net.way(0, 256, 0),
          net -> net.way(0, LOW, 0), net -> net.way(0, HIGH, 0));
      check.same("0", View.way(Nets.busy(), 0, 0), "0 18 0");
      check.same("255", View.way(Nets.busy(), 0, 255), "-2 0 1");
    });
    s.test("Promise 25: IllegalArgumentException if what is not 0 to 2", check -> {
      Refused.argument(check, BUSY, net -> net.way(0, 17, -1), net -> net.way(0, 17, 3),
          net -> net.way(0, 255, LOW), net -> net.way(0, 255, HIGH));
      check.same("0", Nets.busy().way(0, 17, 0), 0);
      check.same("2", Nets.busy().way(0, 17, 2), 4);
    });
    s.test("Promise 25: of several exceptions that named first", check ->
        Refused.bounds(check, BUSY, net -> net.way(4, 256, 0), net -> net.way(-1, 17, 3)));
    s.test("Promise 25: the PORT, -1 without a WAY, -2 by a TUNNEL", check -> {
      SeamarkNet net = Nets.tunnelled(100);
      check.same("PORT 1", net.way(1, 49, 0), 1);
      check.same("none", net.way(1, 130, 0), -1);
      check.same("TUNNEL", net.way(0, 130, 0), -2);
    });
    s.test("Promise 25: the HOP, or the TUNNEL, -1 without a WAY", check -> {
      SeamarkNet net = Nets.tunnelled(100);
      net.addTunnel(0, 51);
      net.addRoute(0, 131, 8, -2);
      check.same("by a ROUTE", net.way(1, 49, 1), 34);
      check.same("by a PORT", net.way(1, 34, 1), 34);
      check.same("none", net.way(1, 130, 1), -1);
      check.same("TUNNEL 0", net.way(0, 130, 1), 0);
      check.same("TUNNEL 1", net.way(0, 131, 1), 1);
    });
    s.test("Promise 25: l of the NET by which it is, -1 without a WAY", check -> {
      SeamarkNet net = Nets.tunnelled(100);
      check.same("l 0", net.way(0, 49, 2), 0);
      check.same("of a PORT", net.way(1, 34, 2), 4);
      check.same("of a ROUTE, not of the PORT to which it leads", net.way(0, 127, 2), 0);
      check.same("of a ROUTE VIA a TUNNEL", net.way(0, 130, 2), 1);
      check.same("none", net.way(1, 130, 2), -1);
      check.same("l 8", net.way(3, 130, 2), 8);
    });
    s.test("Promise 25: whether it is an ADDRESS of the MACHINE itself or not", check -> {
      SeamarkNet net = Nets.line(100, 100, 100);
      check.same("itself", View.way(net, 1, 35), "1 35 4");
      net.addRoute(1, 35, 5, 19);
      check.same("itself, by a ROUTE", View.way(net, 1, 35), "0 19 5");
    });
  }

  private static void promise26(Sentences s) {
    s.test("Promise 26: IndexOutOfBoundsException if there is no such CABLE", check -> {
      Refused.bounds(check, BUSY, net -> net.carried(-1), net -> net.carried(4),
          net -> net.carried(8), net -> net.carried(LOW), net -> net.carried(HIGH));
      Refused.bounds(check, FULL, net -> net.carried(8), net -> net.carried(-1));
      check.same("the last one", Nets.busy().carried(3), 0);
      check.same("the eighth one", Nets.full().carried(7), 0);
    });
    s.test("Promise 26: how many FRAMES were delivered on it, of all sorts", check -> {
      SeamarkNet net = Nets.line(100, 100, 100);
      net.send(0, 34, false, 9, 9, false);
      int[][] due = {{0, 0}, {1, 0}, {2, 0}, {3, 0}, {3, 1}, {3, 2}, {3, 3}};
      for (int[] carried : due) {
        check.same("CABLE 0", net.carried(0), carried[0]);
        check.same("CABLE 1", net.carried(1), carried[1]);
        check.same("CABLE 2", net.carried(2), 0);
        net.step(1);
      }
    });
    s.test("Promise 26: a FRAME that is in the row does not count yet", check -> {
      SeamarkNet net = Nets.street(40);
      net.send(0, 34, false, 9, 9, false);
      check.same("carried()", net.carried(0), 0);
    });
    s.test("Promise 26: a QUESTION that none hears counts", check -> {
      SeamarkNet net = Nets.street(40);
      net.send(0, 40, false, 9, 9, false);
      net.step(1);
      check.same("carried()", net.carried(0), 1);
    });
  }

  private static void promise27(Sentences s) {
    s.test("Promise 27: 0 without any FRAMES that were delivered", check -> {
      check.same("without MACHINES", new SeamarkNet().use(), 0.0);
      SeamarkNet net = Nets.street(40);
      net.send(0, 34, false, 9, 9, false);
      check.same("with one in the row", net.use(), 0.0);
    });
    s.test("Promise 27: 0 as none of them had a PACKET or PIECE", check -> {
      SeamarkNet net = Nets.street(40);
      net.send(0, 34, false, 9, 9, false);
      net.step(2);
      check.same("use()", net.use(), 0.0);
    });
    s.test("Promise 27: not cut", check -> {
      SeamarkNet net = Nets.street(12);
      net.send(0, 34, false, 8, 9, false);
      net.step(3);
      check.same("a third", net.use(), 1.0 / 3.0);
      net.send(0, 34, false, 32, 9, false);
      net.step(4);
      check.same("PIECES count, too", net.use(), 5.0 / 7.0);
    });
    s.test("Promise 27: of all CABLES together", check -> {
      SeamarkNet net = Nets.line(100, 100, 100);
      net.send(0, 20, false, 9, 9, false);
      net.send(2, 49, false, 9, 9, false);
      net.step(60);
      check.same("one of four", net.use(), 0.25);
    });
  }
}
