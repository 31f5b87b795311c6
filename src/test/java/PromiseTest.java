/** Each promise by itself: ordinary inputs, the edges that the document names, wrong inputs. */
public final class PromiseTest {
  private static final int LOW = Integer.MIN_VALUE;
  private static final int HIGH = Integer.MAX_VALUE;

  private final Check check = new Check("PromiseTest");

  public static void main(String[] args) {
    PromiseTest test = new PromiseTest();
    test.promise1();
    test.promise2();
    test.promise3();
    test.promise4();
    test.promise5();
    test.promise6();
    test.promise7();
    test.promise8();
    test.promise9();
    test.promise10();
    test.promise11();
    test.promise12();
    test.promise13();
    test.promise14to18();
    test.promise19();
    test.promise20();
    test.promise21();
    test.promise22();
    test.promise23();
    test.promise24();
    test.promise25();
    test.promise26();
    test.promise27();
    test.promise28();
    test.promise29();
    test.promise30();
    test.promise31();
    test.check.end();
  }

  private void same(String what, Object got, Object due) {
    check.same(what, got, due);
  }

  // ---- nets

  private static SeamarkNet sample() {
    SeamarkNet net = Nets.street(40);
    net.send(0, 34, true, 90, 5, false);
    net.step(4);
    return net;
  }

  private void noted(String what, SeamarkNet net, int machine, int back, int... due) {
    StringBuilder text = new StringBuilder();
    for (int part : due) {
      text.append(text.length() == 0 ? "" : " ").append(part);
    }
    same(what, View.note(net, machine, back), text.toString());
  }

  /** The calls throw, and change nothing. */
  private void keeps(String what, SeamarkNet net, Runnable calls) {
    long before = net.digest();
    calls.run();
    same(what + " changes nothing", net.digest(), before);
  }

  // ---- promises

  private void promise1() {
    SeamarkNet net = new SeamarkNet();
    same("new machines()", net.machines(), 0);
    same("new packets()", net.packets(), 0);
    same("new steps()", net.steps(), 0);
    same("new gone()", net.gone(), 0);
    same("new frames()", net.frames(), 0);
    same("new use()", net.use(), 0.0);
    same("new step()", net.step(1), 0);
    check.bounds("new carried()", () -> net.carried(0));
    check.bounds("new waiting()", () -> net.waiting(0));
    SeamarkNet other = new SeamarkNet();
    other.addCable(50);
    check.bounds("two nets share nothing", () -> net.carried(0));
  }

  private void promise2() {
    SeamarkNet net = new SeamarkNet();
    for (int width : new int[] {11, 201, 0, -12, LOW, HIGH}) {
      check.argument("addCable(" + width + ")", () -> net.addCable(width));
    }
    same("addCable(12)", net.addCable(12), 0);
    same("addCable(200)", net.addCable(200), 1);
    same("its WIDTH", net.setWidth(1, 50), 200);
    for (int cable = 2; cable < 8; cable++) {
      same("addCable", net.addCable(100), cable);
    }
    check.state("a ninth CABLE", () -> net.addCable(100));
    check.argument("the first exception", () -> net.addCable(11));
    same("none came", net.carried(7), 0);
    check.bounds("no CABLE 8", () -> net.carried(8));
  }

  private void promise3() {
    SeamarkNet net = new SeamarkNet();
    net.addCable(40);
    check.bounds("setWidth(1, ..)", () -> net.setWidth(1, 50));
    check.bounds("setWidth(-1, ..)", () -> net.setWidth(-1, 50));
    check.bounds("the first exception", () -> net.setWidth(1, 5));
    check.argument("setWidth(0, 11)", () -> net.setWidth(0, 11));
    check.argument("setWidth(0, 201)", () -> net.setWidth(0, 201));
    same("setWidth", net.setWidth(0, 12), 40);
    same("setWidth again", net.setWidth(0, 200), 12);
    same("setWidth at last", net.setWidth(0, 200), 200);
    SeamarkNet street = Nets.street(40);
    street.send(0, 34, false, 36, 5, true);
    street.send(0, 34, false, 40, 5, false);
    street.setWidth(0, 12);
    street.step(60);
    same("what is on its way goes as it is", street.noted(1), 2);
    noted("whole by then", street, 1, 0, 0, 33, 40, 5, 1, 0);
  }

  private void promise4() {
    SeamarkNet net = new SeamarkNet();
    for (int machine = 0; machine < 8; machine++) {
      same("addMachine", net.addMachine(machine % 2 == 0), machine);
    }
    check.state("a ninth MACHINE", () -> net.addMachine(true));
    same("machines()", net.machines(), 8);
    same("0 FORWARDS", net.setForwarding(0, true), true);
    same("1 does not", net.setForwarding(1, true), false);
  }

  private void promise5() {
    SeamarkNet net = new SeamarkNet();
    net.addCable(40);
    net.addMachine(true);
    net.addMachine(true);
    check.bounds("no such MACHINE", () -> net.addPort(2, 0, 1, 1));
    check.bounds("nor this", () -> net.addPort(-1, 0, 1, 1));
    check.bounds("no such CABLE", () -> net.addPort(0, 1, 1, 1));
    check.bounds("nor -1", () -> net.addPort(0, -1, 1, 1));
    check.bounds("CABLE ahead of ADDRESS", () -> net.addPort(0, 1, 300, 1));
    check.argument("ADDRESS -1", () -> net.addPort(0, 0, -1, 1));
    check.argument("ADDRESS 256", () -> net.addPort(0, 0, 256, 1));
    check.argument("LENGTH -1", () -> net.addPort(0, 0, 1, -1));
    check.argument("LENGTH 9", () -> net.addPort(0, 0, 1, 9));
    same("MARK 0", net.addPort(0, 0, 0, 8), 0);
    same("MARK 4", net.addPort(1, 0, 255, 0), 4);
    check.state("ADDRESS of its own", () -> net.addPort(0, 0, 0, 1));
    check.state("ADDRESS of another one", () -> net.addPort(0, 0, 255, 1));
    check.argument("LENGTH ahead of a taken ADDRESS", () -> net.addPort(0, 0, 255, 9));
    same("MARK 1", net.addPort(0, 0, 1, 1), 1);
    same("MARK 2", net.addPort(0, 0, 2, 1), 2);
    same("MARK 3", net.addPort(0, 0, 3, 1), 3);
    check.state("a fifth PORT", () -> net.addPort(0, 0, 4, 1));
    same("MARK 5", net.addPort(1, 0, 4, 1), 5);
  }

  private void promise6() {
    SeamarkNet net = new SeamarkNet();
    check.bounds("no MACHINE", () -> net.addTunnel(0, 7));
    net.addMachine(true);
    check.bounds("MACHINE ahead of FAR", () -> net.addTunnel(1, 256));
    check.argument("FAR -1", () -> net.addTunnel(0, -1));
    check.argument("FAR 256", () -> net.addTunnel(0, 256));
    same("TUNNEL 0", net.addTunnel(0, 0), 0);
    same("TUNNEL 1", net.addTunnel(0, 255), 1);
    check.state("a third TUNNEL", () -> net.addTunnel(0, 7));
    check.argument("FAR ahead of too many", () -> net.addTunnel(0, 256));
  }

  private void promise7() {
    SeamarkNet net = new SeamarkNet();
    check.bounds("no MACHINE", () -> net.addRoute(0, 1, 1, 1));
    net.addMachine(true);
    check.bounds("MACHINE ahead of ADDRESS", () -> net.addRoute(1, 256, 1, 1));
    check.argument("ADDRESS -1", () -> net.addRoute(0, -1, 1, 1));
    check.argument("ADDRESS 256", () -> net.addRoute(0, 256, 1, 1));
    check.argument("LENGTH -1", () -> net.addRoute(0, 1, -1, 1));
    check.argument("LENGTH 9", () -> net.addRoute(0, 1, 9, 1));
    check.argument("VIA 256", () -> net.addRoute(0, 1, 1, 256));
    check.argument("VIA of no TUNNEL", () -> net.addRoute(0, 1, 1, -1));
    check.argument("VIA as low as can be", () -> net.addRoute(0, 1, 1, LOW));
    net.addTunnel(0, 9);
    check.argument("VIA of the next TUNNEL", () -> net.addRoute(0, 1, 1, -2));
    same("ROUTE 0", net.addRoute(0, 0, 0, 255), 0);
    same("ROUTE 1", net.addRoute(0, 255, 8, -1), 1);
    net.addTunnel(0, 10);
    same("ROUTE 2", net.addRoute(0, 128, 1, -2), 2);
    same("by TUNNEL 1", net.way(0, 129, 1), 1);
    for (int route = 3; route < 6; route++) {
      same("ROUTE", net.addRoute(0, 1, 1, 0), route);
    }
    check.state("a seventh ROUTE", () -> net.addRoute(0, 1, 1, 1));
    check.argument("VIA ahead of too many", () -> net.addRoute(0, 1, 1, -3));
  }

  private void promise8() {
    SeamarkNet net = Nets.street(40);
    check.bounds("no MACHINE", () -> net.dropRoute(3));
    check.bounds("nor this", () -> net.dropRoute(-1));
    check.state("no ROUTE", () -> net.dropRoute(0));
    net.addRoute(0, 128, 1, 34);
    net.addRoute(0, 128, 2, 35);
    same("by the last one", net.way(0, 130, 1), 35);
    same("dropRoute", net.dropRoute(0), 1);
    same("by the first one", net.way(0, 130, 1), 34);
    same("dropRoute again", net.dropRoute(0), 0);
    same("by none", net.way(0, 130, 1), -1);
    check.state("none left", () -> net.dropRoute(0));
    for (int route = 0; route < 6; route++) {
      same("there is room again", net.addRoute(0, 1, 1, 34), route);
    }
  }

  private void promise9() {
    SeamarkNet net = Nets.line(100, 100, 100);
    check.bounds("no MACHINE", () -> net.setForwarding(4, true));
    check.bounds("nor this", () -> net.setForwarding(-1, true));
    same("it did", net.setForwarding(1, false), true);
    net.send(0, 49, false, 5, 9, false);
    net.step(60);
    same("it FORWARDS no more", net.gone(), 1);
    same("without a COMPLAINT", net.noted(0), 0);
    same("it did not", net.setForwarding(1, true), false);
    net.send(0, 49, false, 5, 9, false);
    net.step(60);
    same("it FORWARDS", net.noted(3), 1);
  }

  private void promise10() {
    SeamarkNet net = Nets.street(40);
    keeps("send", net, () -> {
      check.bounds("no MACHINE", () -> net.send(3, 300, true, 0, 1, false));
      check.bounds("nor this", () -> net.send(-1, 34, true, 0, 1, false));
      check.argument("TO -1", () -> net.send(0, -1, true, 0, 1, false));
      check.argument("TO 256", () -> net.send(0, 256, true, 0, 1, false));
      check.argument("SIZE -1", () -> net.send(0, 34, true, -1, 1, false));
      check.argument("SIZE 401", () -> net.send(0, 34, true, 401, 1, false));
      check.argument("TTL 0", () -> net.send(0, 34, true, 0, 0, false));
      check.argument("TTL 41", () -> net.send(0, 34, true, 0, 41, false));
      same("no WAY", net.send(0, 200, true, 0, 1, false), -1);
    });
    same("to itself", net.send(0, 33, false, 400, 40, true), 0);
    noted("at once", net, 0, 0, 0, 33, 400, 40, 0, 0);
    same("an ASK to itself", net.send(0, 33, true, 7, 1, false), 1);
    noted("an ANSWER at once", net, 0, 0, 2, 33, 7, 32, 2, 1);
    same("without FRAMES", net.frames(), 0);
    same("just as wide", net.send(0, 34, false, 36, 1, true), 3);
    same("a QUESTION", View.frame(net, 0), "0 0 -1 1 34 0 0 -1");
    same("one too wide", net.send(0, 34, false, 37, 1, true), 4);
    noted("TOO WIDE", net, 0, 0, 5, 33, 0, 32, 5, 40);
    same("it is GONE", net.gone(), 1);
    same("in PIECES", net.send(0, 34, false, 37, 1, false), 6);
    same("which WAIT, too", net.waiting(0), 3);
    same("no other QUESTION", net.frames(), 1);
    net.step(60);
    noted("whole again", net, 1, 0, 0, 33, 37, 1, 6, 0);
    noted("behind the other one", net, 1, 1, 0, 33, 36, 1, 3, 0);
    same("TTL 1 is enough for a neighbour", net.noted(1), 2);
    sendInPieces();
    sendByTunnel();
  }

  private void sendInPieces() {
    SeamarkNet net = Nets.street(30);
    net.send(0, 34, false, 1, 5, false);
    net.step(2);
    net.send(0, 34, false, 60, 5, false);
    same("4 FRAMES", net.frames(), 4);
    same("PIECE at 0", View.frame(net, 1), "0 0 4 0 1 24 0 0");
    same("PIECE at 24", View.frame(net, 2), "0 0 4 0 1 24 24 0");
    same("PIECE at 48", View.frame(net, 3), "0 0 4 0 1 12 48 0");
    SeamarkNet split = Nets.line(80, 24, 120);
    split.send(0, 49, false, 100, 9, false);
    split.step(60);
    noted("split twice, put together once", split, 3, 0, 0, 17, 100, 7, 0, 0);
    same("nothing is GONE", split.gone(), 0);
    same("on the first CABLE 2 and 2", split.carried(0), 4);
    same("then 4 and 2, and 2", split.carried(1), 8);
  }

  private void sendByTunnel() {
    SeamarkNet net = Nets.tunnelled(100);
    same("ASK", net.send(0, 130, true, 20, 1, true), 0);
    same("in a WRAPPED one", net.packets(), 2);
    same("the QUESTION", View.frame(net, 0), "0 0 -1 1 18 0 0 -1");
    net.step(2);
    same("the WRAPPED one", View.frame(net, 0), "0 0 4 0 1 24 0 6");
    net.step(60);
    noted("its ANSWER", net, 0, 0, 2, 130, 20, 30, 2, 0);
    same("all is well", net.gone(), 0);
    SeamarkNet narrow = Nets.tunnelled(12);
    narrow.send(0, 130, false, 8, 1, true);
    narrow.step(60);
    noted("WHOLE in a WRAPPED one in PIECES", narrow, 3, 0, 0, 17, 8, 1, 0, 0);
    SeamarkNet other = Nets.tunnelled(100);
    other.addTunnel(0, 51);
    other.addRoute(0, 128, 2, -2);
    other.send(0, 130, false, 8, 5, true);
    other.step(60);
    same("2 has no TUNNEL: it is GONE", other.gone(), 1);
    same("nothing is told of it", other.noted(0), 0);
    for (int width = 12; width <= 32; width += 4) {
      SeamarkNet both = Nets.tunnelInTunnel(width);
      both.send(0, 200, true, 7, 1, true);
      same("two more come with it", both.packets(), 2);
      both.step(60);
      same("a third one, and the ANSWER", both.packets(), width == 12 ? 5 : 4);
      noted("unwrapped twice", both, 0, 0, 2, 200, 7, 30, both.packets() - 1, 0);
      same("nothing is GONE", both.gone(), 0);
    }
    SeamarkNet own = Nets.tunnelled(100);
    own.addTunnel(0, 17);
    own.addRoute(0, 192, 2, -2);
    same("FAR is its own", own.send(0, 200, false, 8, 5, true), 0);
    noted("NO WAY", own, 0, 0, 4, 17, 0, 32, 1, 0);
    SeamarkNet twice = Nets.tunnelled(100);
    twice.addTunnel(0, 140);
    twice.addRoute(0, 192, 2, -2);
    same("FAR by a TUNNEL: no FROM", twice.send(0, 200, false, 8, 5, true), -1);
  }

  private void promise11() {
    SeamarkNet net = Nets.street(40);
    check.argument("step(0)", () -> net.step(0));
    check.argument("step(-1)", () -> net.step(-1));
    check.argument("step(61)", () -> net.step(61));
    same("without FRAMES", net.step(60), 0);
    same("no STEPS are made", net.steps(), 0);
    net.send(0, 34, true, 60, 5, false);
    same("QUESTION", net.step(1), 1);
    same("1 KNOWS who asked", net.knows(1, 33), 0);
    same("0 KNOWS not yet", net.knows(0, 34), -1);
    same("2 was not asked", net.knows(2, 33), -1);
    same("REPLY", View.frame(net, 0), "0 4 0 2 34 0 0 -1");
    same("both PIECES go", net.step(1), 2);
    same("0 KNOWS", net.knows(0, 34), 4);
    same("STEPS are as many as FRAMES", net.step(60), 0);
    same("steps()", net.steps(), 6);
    noted("the ANSWER", net, 0, 0, 2, 34, 60, 32, 1, 0);
    SeamarkNet many = Nets.street(12);
    many.send(0, 34, false, 1, 5, false);
    many.step(3);
    many.send(0, 34, false, 400, 5, false);
    many.send(0, 34, false, 400, 5, false);
    same("60 STEPS at most", many.step(60), 40);
    stepTtl();
    stepComplaints();
    stepOtherCable();
    stepOverflow();
    stepWaitsOn();
  }

  private void stepTtl() {
    SeamarkNet net = Nets.line(100, 100, 100);
    net.send(0, 49, false, 5, 2, false);
    net.step(60);
    noted("LOST at 2", net, 0, 0, 3, 34, 0, 31, 1, 0);
    net.send(0, 49, false, 5, 1, false);
    net.step(60);
    noted("LOST at 1", net, 0, 0, 3, 18, 0, 32, 3, 0);
    net.send(0, 49, false, 5, 3, false);
    net.step(60);
    noted("TTL 3 is enough", net, 3, 0, 0, 17, 5, 1, 4, 0);
    same("two are GONE", net.gone(), 2);
  }

  private void stepComplaints() {
    SeamarkNet net = Nets.line(100, 100, 24);
    net.send(0, 49, false, 20, 9, true);
    net.send(0, 49, false, 21, 9, true);
    net.step(60);
    noted("TOO WIDE at 2", net, 0, 0, 5, 34, 0, 31, 2, 24);
    same("but 20 is not", net.noted(3), 1);
    net.send(0, 90, false, 5, 9, true);
    net.step(60);
    noted("NO WAY at 1", net, 0, 0, 4, 18, 0, 32, 4, 0);
    SeamarkNet pieces = Nets.line(40, 100, 100);
    pieces.send(0, 90, false, 60, 9, false);
    pieces.step(60);
    same("both PIECES are GONE", pieces.gone(), 2);
    same("one COMPLAINT, of the first", pieces.noted(0), 1);
    same("no other PACKET", pieces.packets(), 2);
    SeamarkNet back = Nets.line(100, 100, 100);
    back.dropRoute(2);
    back.send(0, 49, false, 5, 3, false);
    back.setForwarding(3, true);
    back.addRoute(2, 52, 6, 49);
    back.send(0, 53, false, 5, 3, false);
    back.step(60);
    same("a COMPLAINT that has no WAY does not come to be", back.noted(0), 0);
  }

  /** 1 has PORTS on both CABLES; the MARK it KNOWS is of a PORT on another CABLE in the end. */
  private void stepOtherCable() {
    SeamarkNet net = otherCable();
    same("on CABLE 0, to a PORT on CABLE 1", View.frame(net, 0), "0 6 1 0 1 3 0 0");
    net.step(1);
    same("it comes", net.noted(0), 2);
    same("CABLE 0 carried it", net.carried(0), 1);
  }

  private SeamarkNet otherCable() {
    SeamarkNet net = Nets.crossed(65, 66, 67);
    same("1 KNOWS", net.knows(1, 65), 1);
    net.send(1, 65, false, 3, 9, false);
    return net;
  }

  private void stepOverflow() {
    SeamarkNet net = Nets.street(12);
    net.send(0, 40, false, 8, 5, false);
    net.send(0, 34, false, 48, 5, false);
    same("six WAIT", net.waiting(0), 6);
    same("that for 40 is GONE", net.gone(), 1);
    net.send(0, 40, false, 8, 5, false);
    same("the first PIECE is GONE", net.gone(), 2);
    same("40 is asked for again", View.frame(net, 2), "0 0 -1 1 40 0 0 -1");
    net.step(60);
    same("PIECES without the first one", net.heaps(1), 1);
    same("40 WAITS on", net.waiting(0), 1);
  }

  /** 0 learns of 34 by its QUESTION; what WAITED for 34 waits on for the REPLY. */
  private void stepWaitsOn() {
    SeamarkNet net = Nets.street(100);
    net.send(0, 34, false, 1, 5, false);
    net.send(1, 33, false, 2, 5, false);
    net.step(1);
    same("1 KNOWS 33", net.knows(1, 33), 0);
    same("but waits on", net.waiting(1), 1);
    net.send(1, 33, false, 3, 5, false);
    same("what is new goes at once", View.frame(net, 2), "0 4 0 0 2 3 0 0");
    net.step(60);
    same("the REPLY lets the other one go", net.waiting(1), 0);
    noted("so it comes last", net, 0, 0, 0, 34, 2, 5, 1, 0);
    noted("behind the new one", net, 0, 1, 0, 34, 3, 5, 2, 0);
  }

  private void promise12() {
    SeamarkNet net = Nets.street(40);
    check.bounds("no MACHINE", () -> net.forget(3));
    check.bounds("nor this", () -> net.forget(-1));
    same("nothing", net.forget(0), 0);
    net.send(0, 34, false, 1, 5, false);
    net.send(0, 35, false, 1, 5, false);
    net.step(60);
    same("two ADDRESSES", net.forget(0), 2);
    same("none any more", net.forget(0), 0);
    same("knows()", net.knows(0, 34), -1);
    same("1 KNOWS on", net.forget(1), 1);
    net.send(0, 34, false, 1, 5, false);
    same("it asks again", net.frame(0, 3), 1);
  }

  private void promise13() {
    SeamarkNet net = Nets.street(20);
    check.bounds("no MACHINE", () -> net.giveUp(3));
    check.bounds("nor this", () -> net.giveUp(-1));
    same("nothing WAITS", net.giveUp(0), 0);
    net.send(0, 40, false, 32, 5, false);
    net.send(0, 41, false, 8, 5, false);
    same("three WAIT", net.giveUp(0), 3);
    same("none WAITS", net.waiting(0), 0);
    same("three are GONE", net.gone(), 3);
    same("two COMPLAINTS", net.noted(0), 2);
    noted("NO WAY, ABOUT 1", net, 0, 0, 4, 33, 0, 32, 3, 1);
    noted("in order", net, 0, 1, 4, 33, 0, 32, 2, 1);
    SeamarkNet line = Nets.line(100, 100, 100);
    line.addRoute(1, 56, 5, 36);
    line.send(0, 49, false, 5, 9, false);
    line.send(0, 57, false, 5, 9, false);
    line.step(60);
    line.forget(1);
    same("one WAITS at 1", line.waiting(1), 1);
    same("giveUp(1)", line.giveUp(1), 1);
    same("the COMPLAINT WAITS there", line.waiting(1), 1);
    line.step(60);
    noted("it comes to 0", line, 0, 0, 4, 18, 0, 32, 2, 1);
  }

  private void promise14to18() {
    SeamarkNet net = Nets.street(40);
    same("machines()", net.machines(), 3);
    net.addMachine(true);
    same("machines() then", net.machines(), 4);
    net.send(0, 34, true, 60, 5, false);
    same("packets()", net.packets(), 1);
    same("frames()", net.frames(), 1);
    same("steps()", net.steps(), 0);
    net.step(3);
    same("steps() then", net.steps(), 3);
    same("frames() then", net.frames(), 1);
    net.step(60);
    same("packets() with the ANSWER", net.packets(), 2);
    same("steps() at last", net.steps(), 6);
    same("frames() at last", net.frames(), 0);
    same("gone()", net.gone(), 0);
    net.send(0, 34, false, 60, 5, true);
    same("gone() then", net.gone(), 1);
    same("packets() with the COMPLAINT", net.packets(), 4);
    goneHeap();
  }

  /** A heap counts once, however many PIECES it has. */
  private void goneHeap() {
    SeamarkNet net = Nets.street(20);
    net.send(0, 34, false, 1, 5, false);
    net.step(60);
    for (int packet = 0; packet < 4; packet++) {
      net.forget(0);
      net.send(0, 34, false, 112, 5, false);
      same("one PIECE of seven is GONE", net.gone(), packet + 1);
      net.step(packet == 3 ? 3 : 60);
    }
    same("a heap has begun, another one is GONE", net.gone(), 5);
    same("heaps()", net.heaps(1), 3);
  }

  private void promise19() {
    SeamarkNet net = Nets.street(40);
    check.bounds("no FRAME", () -> net.frame(0, 0));
    net.send(0, 34, false, 60, 5, false);
    check.bounds("FRAME -1", () -> net.frame(-1, 0));
    check.bounds("FRAME 1", () -> net.frame(1, 0));
    check.bounds("FRAME ahead of what", () -> net.frame(1, 8));
    check.argument("what -1", () -> net.frame(0, -1));
    check.argument("what 8", () -> net.frame(0, 8));
    same("a QUESTION", View.frame(net, 0), "0 0 -1 1 34 0 0 -1");
    net.step(1);
    same("a REPLY", View.frame(net, 0), "0 4 0 2 34 0 0 -1");
    net.step(1);
    same("a PIECE", View.frame(net, 0), "0 0 4 0 0 36 0 0");
    same("another one", View.frame(net, 1), "0 0 4 0 0 24 36 0");
    check.bounds("FRAME 2", () -> net.frame(2, 0));
  }

  private void promise20() {
    SeamarkNet net = sample();
    check.bounds("no MACHINE", () -> net.knows(3, 33));
    check.bounds("MACHINE ahead of ADDRESS", () -> net.knows(-1, 256));
    check.argument("ADDRESS -1", () -> net.knows(0, -1));
    check.argument("ADDRESS 256", () -> net.knows(0, 256));
    same("0 of 34", net.knows(0, 34), 4);
    same("1 of 33", net.knows(1, 33), 0);
    same("0 of itself", net.knows(0, 33), -1);
    same("0 of 0", net.knows(0, 0), -1);
    same("0 of 255", net.knows(0, 255), -1);
  }

  private void promise21() {
    SeamarkNet net = Nets.street(40);
    check.bounds("no MACHINE", () -> net.waiting(3));
    check.bounds("nor this", () -> net.waiting(-1));
    same("none", net.waiting(0), 0);
    net.send(0, 34, false, 90, 5, false);
    same("three PIECES", net.waiting(0), 3);
    net.send(0, 35, false, 90, 5, false);
    same("and three", net.waiting(0), 6);
    net.step(3);
    same("those for 34 are gone on", net.waiting(0), 3);
    same("none at 1", net.waiting(1), 0);
  }

  private void promise22() {
    SeamarkNet net = Nets.street(40);
    check.bounds("no MACHINE", () -> net.heaps(3));
    check.bounds("nor this", () -> net.heaps(-1));
    net.send(0, 34, false, 90, 5, false);
    net.send(2, 34, false, 90, 5, false);
    net.step(4);
    same("none", net.heaps(1), 0);
    net.step(1);
    same("one", net.heaps(1), 1);
    net.step(2);
    same("whole", net.heaps(1), 0);
    net.step(2);
    same("that of the other one", net.heaps(1), 1);
    net.step(1);
    same("whole, too", net.heaps(1), 0);
    same("both are NOTED", net.noted(1), 2);
    fourthHeap();
  }

  /** Two heaps that stay, one by way of 3 that is not whole yet, and a fourth one within it. */
  private void fourthHeap() {
    SeamarkNet net = Nets.street(20);
    net.addMachine(true);
    net.addPort(3, 0, 36, 3);
    net.addRoute(2, 34, 8, 36);
    net.send(2, 34, false, 1, 5, false);
    net.step(60);
    for (int packet = 0; packet < 2; packet++) {
      net.forget(0);
      net.send(0, 34, false, 112, 5, false);
      net.step(60);
    }
    same("two heaps", net.heaps(1), 2);
    int gone = net.gone();
    net.send(2, 34, false, 20, 5, false);
    net.step(1);
    net.send(0, 34, false, 30, 5, false);
    net.step(2);
    same("the third one begins", net.heaps(1), 3);
    same("none is GONE", net.gone(), gone);
    net.step(1);
    same("a fourth one begins", net.heaps(1), 3);
    same("the first one is GONE", net.gone(), gone + 1);
    net.step(1);
    same("it is whole", net.heaps(1), 2);
    noted("that of 30", net, 1, 0, 0, 33, 30, 5, 4, 0);
    net.step(1);
    same("the third one is whole", net.heaps(1), 1);
    noted("that of 20", net, 1, 0, 0, 35, 20, 4, 3, 0);
    net.forget(0);
    net.send(0, 34, false, 112, 5, false);
    net.step(60);
    same("the second one is KEPT on", net.heaps(1), 2);
  }

  private void promise23() {
    SeamarkNet net = Nets.street(40);
    check.bounds("no MACHINE", () -> net.noted(3));
    check.bounds("nor this", () -> net.noted(-1));
    for (int count = 0; count < 13; count++) {
      same("noted()", net.noted(2), count);
      net.send(2, 35, false, count, 5, false);
    }
    same("all together", net.noted(2), 13);
    net.send(0, 35, true, 1, 5, false);
    net.step(60);
    same("an ASK is not NOTED", net.noted(2), 13);
    same("an ANSWER is", net.noted(0), 1);
  }

  private void promise24() {
    SeamarkNet net = Nets.street(40);
    check.bounds("none", () -> net.note(0, 0, 0));
    for (int count = 0; count < 13; count++) {
      check.bounds("not so many", () -> net.note(0, net.noted(0), 0));
      net.send(0, 33, false, count, count + 1, false);
    }
    check.bounds("no MACHINE", () -> net.note(3, 0, 0));
    check.bounds("nor this", () -> net.note(-1, 0, 6));
    check.bounds("back -1", () -> net.note(0, -1, 0));
    check.bounds("back 10", () -> net.note(0, 10, 0));
    check.bounds("back ahead of what", () -> net.note(0, 10, 6));
    check.bounds("back as high as can be", () -> net.note(0, HIGH, 0));
    check.argument("what -1", () -> net.note(0, 0, -1));
    check.argument("what 6", () -> net.note(0, 0, 6));
    for (int back = 0; back < 10; back++) {
      noted("back " + back, net, 0, back, 0, 33, 12 - back, 13 - back, 12 - back, 0);
    }
  }

  private void promise25() {
    SeamarkNet net = new SeamarkNet();
    net.addCable(100);
    net.addMachine(true);
    check.bounds("no MACHINE", () -> net.way(1, 0, 0));
    check.bounds("MACHINE ahead of TO", () -> net.way(-1, 256, 3));
    check.argument("TO -1", () -> net.way(0, -1, 0));
    check.argument("TO 256", () -> net.way(0, 256, 0));
    check.argument("what -1", () -> net.way(0, 0, -1));
    check.argument("what 3", () -> net.way(0, 0, 3));
    way("without a PORT", net, 5, -1, -1, -1);
    net.addPort(0, 0, 0b01010101, 4);
    net.addPort(0, 0, 0b01010111, 6);
    net.addPort(0, 0, 0b01010000, 4);
    way("by PORT 0", net, 0b01011111, 0, 0b01011111, 4);
    way("by the greatest l", net, 0b01010100, 1, 0b01010100, 6);
    way("to its own", net, 0b01010000, 0, 0b01010000, 4);
    way("to none", net, 0b11010000, -1, -1, -1);
    net.addRoute(0, 0b01010000, 4, 0b01010110);
    way("PORTS ahead of ROUTES", net, 0b01011111, 0, 0b01011111, 4);
    net.addRoute(0, 0b11011111, 3, 0b01010110);
    way("by a ROUTE", net, 0b11000000, 1, 0b01010110, 3);
    net.addRoute(0, 0b11000000, 3, 0b01011111);
    way("of ROUTES the first one", net, 0b11000000, 1, 0b01010110, 3);
    net.addRoute(0, 0b11000000, 4, 0b00000001);
    way("no PORT to VIA, and no other ROUTE", net, 0b11000000, -1, -1, -1);
    way("that with less l is for others", net, 0b11010000, 1, 0b01010110, 3);
    net.addTunnel(0, 3);
    net.addTunnel(0, 4);
    net.addRoute(0, 0b11000000, 8, -2);
    way("by a TUNNEL", net, 0b11000000, -2, 1, 8);
    net.addRoute(0, 0, 0, 0b01011111);
    way("by LENGTH 0", net, 0b10000000, 0, 0b01011111, 0);
  }

  private void way(String what, SeamarkNet net, int to, int port, int hop, int length) {
    same(what + ": PORT", net.way(0, to, 0), port);
    same(what + ": HOP", net.way(0, to, 1), hop);
    same(what + ": l", net.way(0, to, 2), length);
  }

  private void promise26() {
    SeamarkNet net = Nets.line(100, 100, 100);
    check.bounds("no CABLE", () -> net.carried(3));
    check.bounds("nor this", () -> net.carried(-1));
    net.send(0, 49, false, 5, 9, false);
    same("none", net.carried(0), 0);
    net.step(60);
    same("QUESTION, REPLY, PACKET", net.carried(0), 3);
    same("on each", net.carried(2), 3);
    net.send(0, 20, false, 5, 9, false);
    net.step(60);
    same("a QUESTION for none", net.carried(0), 4);
    same("just there", net.carried(1), 3);
  }

  private void promise27() {
    SeamarkNet net = Nets.street(40);
    same("none", net.use(), 0.0);
    net.send(0, 34, false, 1, 5, false);
    net.step(2);
    same("no PACKET", net.use(), 0.0);
    net.step(1);
    same("one of three", net.use(), 1.0 / 3);
    net.send(0, 34, false, 90, 5, false);
    net.step(3);
    same("four of six", net.use(), 4.0 / 6);
  }

  private void promise28() {
    SeamarkNet net = Nets.line(100, 100, 100);
    check.bounds("no MACHINE", () -> net.whoTells(4, 49, 1));
    check.bounds("MACHINE ahead of TO", () -> net.whoTells(-1, 256, 0));
    check.argument("TO -1", () -> net.whoTells(0, -1, 1));
    check.argument("TO 256", () -> net.whoTells(0, 256, 1));
    check.argument("TTL 0", () -> net.whoTells(0, 49, 0));
    check.argument("TTL 41", () -> net.whoTells(0, 49, 41));
    net.send(0, 49, false, 90, 9, false);
    net.step(3);
    keeps("whoTells", net, () -> {
      same("1 tells LOST", net.whoTells(0, 49, 1), 18);
      same("2 tells LOST", net.whoTells(0, 49, 2), 34);
      same("3 tells the ANSWER", net.whoTells(0, 49, 3), 49);
      same("1 tells NO WAY", net.whoTells(0, 90, 40), 18);
      same("none tells", net.whoTells(0, 20, 40), -1);
      same("2 has no WAY", net.whoTells(2, 90, 40), -1);
      same("itself", net.whoTells(0, 17, 1), 17);
    });
    net.setForwarding(2, false);
    same("2 tells nothing", net.whoTells(0, 49, 40), -1);
    SeamarkNet tunnel = Nets.tunnelled(100);
    same("by a TUNNEL", tunnel.whoTells(0, 130, 1), 130);
    tunnel.setWidth(2, 12);
    same("in PIECES", tunnel.whoTells(0, 130, 1), 130);
    knowsAsItIsNow();
    startsWithoutFrames();
  }

  /** Whether 1 has an ANSWER of 65 hangs on whether it KNOWS its MARK. */
  private void knowsAsItIsNow() {
    SeamarkNet net = otherCable();
    for (int turn = 0; turn < 2; turn++) {
      same("by what it KNOWS: whoTells", net.whoTells(1, 65, 9), 65);
      same("by what it KNOWS: hops", net.hops(1, 65), 1);
      same("by what it KNOWS: widest", net.widest(1, 65), 96);
    }
    net.forget(1);
    same("it KNOWS no more: hops", net.hops(1, 65), -1);
    same("it KNOWS no more: widest", net.widest(1, 65), -1);
    same("it KNOWS no more: whoTells", net.whoTells(1, 65, 9), -1);
  }

  /** Trials that end with many FRAMES leave nothing for the next ones. */
  private void startsWithoutFrames() {
    SeamarkNet net = Nets.loop(12, 12);
    for (int turn = 0; turn < 2; turn++) {
      same("round and round: hops", net.hops(0, 200), -1);
      same("then that of 1: whoTells", net.whoTells(0, 2, 1), 2);
      same("round and round: whoTells", net.whoTells(0, 200, 40), -1);
      same("then that of 1: hops", net.hops(0, 2), 1);
      same("round and round: widest", net.widest(0, 200), -1);
      same("then that of 1: widest", net.widest(0, 2), 8);
    }
    net.send(0, 200, true, 8, 40, false);
    net.step(60);
    same("it goes on and on", net.frames() > 0, true);
  }

  private void promise29() {
    SeamarkNet net = Nets.line(100, 100, 100);
    check.bounds("no MACHINE", () -> net.hops(4, 49));
    check.bounds("MACHINE ahead of TO", () -> net.hops(-1, 256));
    check.argument("TO -1", () -> net.hops(0, -1));
    check.argument("TO 256", () -> net.hops(0, 256));
    net.send(0, 49, false, 90, 9, false);
    net.step(3);
    keeps("hops", net, () -> {
      same("to 3", net.hops(0, 49), 3);
      same("to 2", net.hops(0, 34), 2);
      same("to the other side of 1", net.hops(0, 35), 2 - 1);
      same("to itself", net.hops(0, 17), 1);
      same("to none", net.hops(0, 20), -1);
    });
    net.setForwarding(2, false);
    same("no ANSWER", net.hops(0, 49), -1);
    SeamarkNet round = Nets.street(100);
    round.addRoute(0, 128, 1, 34);
    round.addRoute(1, 128, 1, 33);
    round.setForwarding(0, true);
    round.setForwarding(1, true);
    same("round and round", round.hops(0, 200), -1);
    same("LOST is told", round.whoTells(0, 200, 12), 33);
  }

  private void promise30() {
    SeamarkNet net = Nets.line(180, 90, 120);
    check.bounds("no MACHINE", () -> net.widest(4, 49));
    check.bounds("MACHINE ahead of TO", () -> net.widest(-1, 256));
    check.argument("TO -1", () -> net.widest(0, -1));
    check.argument("TO 256", () -> net.widest(0, 256));
    net.send(0, 49, false, 90, 9, false);
    net.step(3);
    keeps("widest", net, () -> {
      same("to 3", net.widest(0, 49), 86);
      same("to 1", net.widest(0, 18), 176);
      same("to itself", net.widest(0, 17), 196);
      same("to none", net.widest(0, 20), -1);
      same("NO WAY", net.widest(0, 90), -1);
    });
    SeamarkNet wide = Nets.line(200, 200, 200);
    same("196 is the first one", wide.widest(0, 49), 196);
    wide.setWidth(2, 12);
    same("8 is the least", wide.widest(0, 49), 8);
    SeamarkNet tunnel = Nets.tunnelled(70);
    same("a TUNNEL takes all", tunnel.widest(0, 130), 196);
    tunnel.setWidth(0, 12);
    same("but more than 6 PIECES are too many to WAIT", tunnel.widest(0, 130), -1);
    SeamarkNet narrower = Nets.tunnelled(100);
    narrower.setWidth(1, 60);
    narrower.addRoute(1, 49, 8, 200);
    same("a WHOLE COMPLAINT is told", narrower.whoTells(0, 130, 1), 18);
    narrower.dropRoute(1);
    same("the PIECES of the next trial are split again", narrower.widest(0, 130), 196);
    same("200 STEPS are enough", Nets.chain(12, 12, 12, 12).widest(0, 130), 196);
    same("201 are too many", Nets.chain(16, 12, 16, 48).widest(0, 130), -1);
    SeamarkNet ahead = Nets.byTheOneAhead();
    same("the second one has an ANSWER in 12 PIECES", ahead.widest(0, 18), 96);
    ahead.setWidth(0, 100);
    same("the first one has not", ahead.widest(0, 18), -1);
    same("six are enough", Nets.funnel(5).widest(0, 32 * 5 + 2), 196 - 5 * 10);
    same("small ones come through the funnel", Nets.funnel(6).hops(0, 32 * 6 + 2), 7);
    same("behind 6 of them", Nets.funnel(6).widest(0, 32 * 6 + 2), -1);
  }

  private void promise31() {
    same("new digest()", new SeamarkNet().digest(), chain(58062L, 0, 0, 0, 0, 0));
    SeamarkNet net = Nets.street(40);
    net.send(0, 33, false, 3, 2, false);
    net.send(0, 33, true, 4, 2, false);
    net.send(0, 33, false, 5, 2, false);
    net.send(0, 33, false, 6, 2, false);
    net.send(0, 34, false, 50, 2, false);
    net.step(1);
    net.send(0, 60, false, 3, 2, false);
    long d = chain(58062L, 3, 7, 1, 0, 2);
    d = chain(d, 0, 4, 0, 2, 34, 0, 0, -1);
    d = chain(d, 0, 0, -1, 1, 60, 0, 0, -1);
    d = chain(d, 1);
    d = chain(d, 3, 0, 4);
    d = chain(d, 0, 33, 6, 2, 4, 0);
    d = chain(d, 0, 33, 5, 2, 3, 0);
    d = chain(d, 2, 33, 4, 32, 2, 1);
    d = chain(d, -1, -1, -1);
    d = chain(d, 0, 0, 0, 0, -1, -1);
    d = chain(d, 0, 0, 0, -1, -1, -1);
    same("digest()", net.digest(), d);
    same("digest() again", net.digest(), d);
  }

  private static long chain(long start, int... values) {
    long d = start;
    for (int v : values) {
      d = d * 31 + v;
    }
    return d;
  }
}
