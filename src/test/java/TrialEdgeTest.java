import java.math.BigInteger;
import java.util.function.Supplier;

/** The edges of promises 28 to 31, each sentence by a test of its own. */
public final class TrialEdgeTest {
  private static final int LOW = Integer.MIN_VALUE;
  private static final int HIGH = Integer.MAX_VALUE;
  private static final Supplier<SeamarkNet> BUSY = Nets::busy;

  public static void main(String[] args) {
    Sentences s = new Sentences("TrialEdgeTest");
    nothingIsChanged(s);
    asItIsNow(s);
    trialsInARow(s);
    steps(s);
    promise28(s);
    promise28Told(s);
    promise29(s);
    promise29Ttl(s);
    promise30(s);
    promise30Asks(s);
    promise30Sizes(s);
    digestOfNone(s);
    digestParts(s);
    s.end();
  }

  // ---- nets

  /** 0 and 1 send all that is for 200 to one another. */
  private static SeamarkNet roundAndRound() {
    SeamarkNet net = Nets.street(100);
    net.addRoute(0, 200, 8, 34);
    net.addRoute(1, 200, 8, 33);
    net.setForwarding(0, true);
    net.setForwarding(1, true);
    return net;
  }

  // ---- what would be

  private static void nothingIsChanged(Sentences s) {
    s.test("Nothing is changed: whoTells", check -> {
      SeamarkNet net = Nets.busy();
      for (int to = 0; to < 256; to += 15) {
        net.whoTells(to % 4, to, 1 + to % 40);
        net.whoTells(to % 4, 130, 1 + to % 40);
      }
      check.same("all", View.all(net), View.all(Nets.busy()));
    });
    s.test("Nothing is changed: hops", check -> {
      SeamarkNet net = Nets.busy();
      for (int to : new int[] {17, 18, 34, 49, 52, 90, 130, 255}) {
        net.hops(0, to);
        net.hops(2, to);
      }
      check.same("all", View.all(net), View.all(Nets.busy()));
    });
    s.test("Nothing is changed: widest", check -> {
      SeamarkNet net = Nets.busy();
      for (int to : new int[] {17, 18, 34, 49, 52, 90, 130, 255}) {
        net.widest(0, to);
        net.widest(3, to);
      }
      check.same("all", View.all(net), View.all(Nets.busy()));
    });
    s.test("Nothing is changed: digest", check -> {
      SeamarkNet net = Nets.full();
      check.same("twice", net.digest(), net.digest());
      check.same("all", View.all(net), View.all(Nets.full()));
    });
  }

  private static void asItIsNow(Sentences s) {
    s.test("In a net as it is now: with what is KNOWN", check -> {
      SeamarkNet net = Nets.crossed(65, 66, 67);
      check.same("whoTells", net.whoTells(1, 65, 9), 65);
      check.same("hops", net.hops(1, 65), 1);
      check.same("widest", net.widest(1, 65), 96);
      net.forget(1);
      check.same("whoTells without", net.whoTells(1, 65, 9), -1);
      check.same("hops without", net.hops(1, 65), -1);
      check.same("widest without", net.widest(1, 65), -1);
    });
    s.test("In a net as it is now: with what is KNOWN, of 0 and 255, too", check -> {
      check.same("of 0", Nets.crossed(0, 1, 2).whoTells(1, 0, 9), 0);
      check.same("of 255", Nets.crossed(255, 254, 253).whoTells(1, 255, 9), 255);
    });
    s.test("In a net as it is now: with its WIDTHS, FORWARDING and ROUTES", check -> {
      SeamarkNet net = Nets.line(100, 100, 100);
      check.same("widest", net.widest(0, 49), 96);
      net.setWidth(1, 50);
      check.same("widest by 50", net.widest(0, 49), 46);
      net.setForwarding(2, false);
      check.same("not FORWARDED", net.hops(0, 49), -1);
      net.setForwarding(2, true);
      check.same("FORWARDED", net.hops(0, 49), 3);
      net.dropRoute(1);
      check.same("without a ROUTE", net.whoTells(0, 49, 9), 18);
    });
    s.test("But without FRAMES: those in the row are not delivered", check -> {
      SeamarkNet net = Nets.line(100, 100, 100);
      net.send(0, 49, false, 5, 1, false);
      net.step(3);
      check.same("a COMPLAINT is on its way", View.frame(net, 0), "0 4 0 0 1 0 0 3");
      check.same("whoTells", net.whoTells(0, 49, 9), 49);
      check.same("hops", net.hops(0, 49), 3);
      check.same("widest", net.widest(0, 49), 96);
    });
    s.test("But without FRAMES: they take no STEPS", check -> {
      SeamarkNet net = Nets.line(12, 12, 12);
      net.send(0, 49, true, 1, 9, false);
      net.step(60);
      for (int packet = 0; packet < 5; packet++) {
        net.send(0, 49, false, 400, 9, false);
      }
      check.same("250 FRAMES", net.frames(), 250);
      check.same("whoTells", net.whoTells(0, 49, 9), 49);
      check.same("hops", net.hops(0, 49), 3);
      check.same("widest", net.widest(0, 49), 8);
    });
    s.test("But with nothing that WAITS: a HOP is asked for, though another WAITS", check -> {
      SeamarkNet net = Nets.street(40);
      net.send(0, 40, false, 5, 1, false);
      net.step(1);
      net.addPort(2, 0, 40, 8);
      net.send(0, 40, true, 5, 1, false);
      check.same("it is not asked for", net.frames(), 0);
      check.same("whoTells", net.whoTells(0, 40, 1), 40);
      check.same("hops", net.hops(0, 40), 1);
      check.same("widest", net.widest(0, 40), 36);
      check.same("both WAIT on", net.waiting(0), 2);
    });
    s.test("But with nothing that WAITS: there is room for 6", check -> {
      SeamarkNet net = Nets.tunnelled(12);
      for (int packet = 0; packet < 6; packet++) {
        net.send(0, 20, false, 5, 1, false);
      }
      check.same("the PIECES of a WRAPPED ASK", net.whoTells(0, 130, 9), 130);
      check.same("six WAIT on", net.waiting(0), 6);
    });
  }

  private static void trialsInARow(Sentences s) {
    s.test("With nothing that WAITS in the trial ahead, at any MACHINE", check -> {
      SeamarkNet net = new SeamarkNet();
      net.addCable(40);
      for (int machine = 0; machine < 8; machine++) {
        net.addMachine(false);
        net.addPort(machine, 0, 10 * machine, 0);
      }
      for (int machine = 0; machine < 8; machine++) {
        check.same("it WAITS", net.whoTells(machine, 200, 9), -1);
      }
      net.addPort(3, 0, 200, 0);
      for (int machine = 0; machine < 8; machine++) {
        check.same("it is asked for", net.whoTells(machine, 200, 9), 200);
      }
    });
    s.test("With nothing that is KEPT in the trial ahead", check -> {
      SeamarkNet net = Nets.tunnelled(12);
      for (int turn = 0; turn < 3; turn++) {
        check.same("6 PIECES of 25 come", net.widest(0, 130), -1);
        check.same("whoTells", net.whoTells(0, 130, 9), 130);
        check.same("6 PIECES of 25 come", net.widest(0, 130), -1);
        check.same("hops", net.hops(0, 130), 1);
      }
      SeamarkNet chain = Nets.chain(16, 12, 16, 48);
      check.same("the last PIECE of the ANSWER comes too late", chain.widest(0, 130), -1);
      for (int cable = 0; cable < 4; cable++) {
        chain.setWidth(cable, 104);
      }
      check.same("it comes in other PIECES", chain.widest(0, 130), 196);
    });
    s.test("With no FRAMES of the trial ahead", check -> {
      SeamarkNet net = Nets.loop(12, 12);
      for (int turn = 0; turn < 3; turn++) {
        check.same("round and round", net.whoTells(0, 200, 40), -1);
        check.same("whoTells", net.whoTells(0, 2, 1), 2);
        check.same("round and round", net.hops(0, 200), -1);
        check.same("hops", net.hops(0, 2), 1);
        check.same("round and round", net.widest(0, 200), -1);
        check.same("widest", net.widest(0, 2), 8);
      }
    });
    s.test("With nothing that was KNOWN or NOTED in the trial ahead, of another MACHINE", check -> {
      SeamarkNet net = Nets.line(100, 60, 50);
      for (int turn = 0; turn < 3; turn++) {
        check.same("0, LOST", net.whoTells(0, 49, 2), 34);
        check.same("3, ANSWER", net.whoTells(3, 17, 9), 17);
        check.same("1, ANSWER", net.whoTells(1, 49, 9), 49);
        check.same("2, none", net.whoTells(2, 52, 9), -1);
        check.same("0, none", net.whoTells(0, 20, 9), -1);
        check.same("1, widest", net.widest(1, 49), 46);
        check.same("0, widest", net.widest(0, 34), 56);
        check.same("3, hops", net.hops(3, 34), 1);
        check.same("0, hops", net.hops(0, 49), 3);
      }
    });
  }

  private static void steps(Sentences s) {
    s.test("In at most 200 STEPS: 200 are enough", check -> {
      SeamarkNet net = Nets.steps200();
      check.same("whoTells", net.whoTells(0, 113, 40), 113);
      check.same("hops", net.hops(0, 113), 5);
      net.send(0, 113, true, 8, 40, false);
      net.step(60);
      net.step(60);
      net.step(60);
      net.step(19);
      check.same("behind 199 STEPS it is not there", net.noted(0), 0);
      net.step(1);
      check.same("behind 200 it is", net.note(0, 0, 0), 2);
    });
    s.test("In at most 200 STEPS: 201 are too many", check -> {
      SeamarkNet net = Nets.steps201();
      check.same("whoTells", net.whoTells(0, 113, 40), -1);
      check.same("hops", net.hops(0, 113), -1);
      net.send(0, 113, true, 8, 40, false);
      net.step(60);
      net.step(60);
      net.step(60);
      net.step(20);
      check.same("behind 200 STEPS it is not there", net.noted(0), 0);
      net.step(1);
      check.same("behind 201 it is", net.note(0, 0, 0), 2);
      net.step(60);
      check.same("as all is KNOWN, it needs less", net.whoTells(0, 113, 40), 113);
    });
    s.test("An ASK of the SIZE 8: one of 7 would need 141 STEPS, not 201", check -> {
      SeamarkNet net = Nets.steps201();
      net.send(0, 113, true, 7, 40, false);
      net.step(60);
      net.step(60);
      net.step(21);
      check.same("7", net.noted(0), 1);
      check.same("8", Nets.steps201().whoTells(0, 113, 40), -1);
      check.same("8, by hops", Nets.steps201().hops(0, 113), -1);
    });
    s.test("An ASK of the SIZE 8: one of 9 would need 268 STEPS, not 200", check -> {
      SeamarkNet net = Nets.steps200();
      net.send(0, 113, true, 9, 40, false);
      net.step(60);
      net.step(60);
      net.step(60);
      net.step(60);
      net.step(27);
      check.same("behind 267", net.noted(0), 0);
      net.step(1);
      check.same("behind 268", net.noted(0), 1);
      check.same("8", Nets.steps200().whoTells(0, 113, 40), 113);
      check.same("8, by hops", Nets.steps200().hops(0, 113), 5);
    });
    s.test("In at most 200 STEPS for each ASK: each of widest() has 200", check -> {
      SeamarkNet net = Nets.narrowTunnel();
      check.same("104 for 196, and 156 for 146", net.widest(0, 161), 146);
      net.send(0, 161, true, 196, 32, true);
      net.step(60);
      net.step(44);
      check.same("104", View.note(net, 0, 0), "5 50 0 29 4 150");
      check.same("no more", net.frames(), 0);
      net.send(0, 161, true, 146, 32, true);
      net.step(60);
      net.step(60);
      check.same("the last one of 156", net.step(36), 0);
      check.same("ANSWER", net.note(0, 0, 2), 146);
    });
  }

  // ---- promise 28

  private static void promise28(Sentences s) {
    s.test("Promise 28: IndexOutOfBoundsException if there is no such MACHINE", check -> {
      Refused.bounds(check, BUSY, net -> net.whoTells(-1, 17, 1), net -> net.whoTells(4, 17, 1),
          net -> net.whoTells(8, 17, 1), net -> net.whoTells(LOW, 17, 1),
          net -> net.whoTells(HIGH, 17, 1));
      check.same("the last one", Nets.busy().whoTells(3, 49, 1), 49);
    });
    s.test("Promise 28: IllegalArgumentException if to is not 0 to 255", check -> {
      Refused.argument(check, BUSY, net -> net.whoTells(0, -1, 1), net -> net.whoTells(0, 256, 1),
          net -> net.whoTells(0, LOW, 1), net -> net.whoTells(0, HIGH, 1));
      check.same("0", Nets.busy().whoTells(0, 0, 40), 18);
      check.same("255", Nets.busy().whoTells(0, 255, 40), -1);
    });
    s.test("Promise 28: IllegalArgumentException if ttl is not 1 to 40", check -> {
      Refused.argument(check, BUSY, net -> net.whoTells(0, 17, 0), net -> net.whoTells(0, 17, 41),
          net -> net.whoTells(0, 17, -1), net -> net.whoTells(0, 17, LOW),
          net -> net.whoTells(0, 17, HIGH));
      check.same("1", Nets.busy().whoTells(0, 17, 1), 17);
      check.same("40", Nets.busy().whoTells(0, 17, 40), 17);
    });
    s.test("Promise 28: of several exceptions that named first", check ->
        Refused.bounds(check, BUSY, net -> net.whoTells(4, 256, 1),
            net -> net.whoTells(-1, 17, 41)));
    s.test("Promise 28: its TTL, from 1 to 40", check -> {
      SeamarkNet net = roundAndRound();
      for (int ttl = 1; ttl <= 40; ttl++) {
        check.same("LOST with TTL " + ttl, net.whoTells(0, 200, ttl), ttl % 2 == 0 ? 33 : 34);
      }
    });
    s.test("Promise 28: -1 if it does not come to be", check -> {
      SeamarkNet net = Nets.street(40);
      check.same("without a WAY", net.whoTells(0, 200, 40), -1);
      net.addMachine(true);
      check.same("without a PORT", net.whoTells(3, 33, 40), -1);
    });
    s.test("Promise 28: -1 without an ANSWER or COMPLAINT", check -> {
      SeamarkNet net = Nets.line(100, 100, 100);
      check.same("none has the ADDRESS", net.whoTells(0, 20, 40), -1);
      check.same("nor there", net.whoTells(0, 36, 40), -1);
      net.setForwarding(1, false);
      check.same("1 does not FORWARD", net.whoTells(0, 49, 40), -1);
      net.setForwarding(1, true);
      net.dropRoute(3);
      check.same("3 has no WAY back", net.whoTells(0, 49, 40), -1);
    });
  }

  private static void promise28Told(Sentences s) {
    s.test("Promise 28: FROM of an ANSWER", check -> {
      SeamarkNet net = Nets.line(100, 100, 100);
      check.same("of 49", net.whoTells(0, 49, 3), 49);
      check.same("of 51, by whichever PORT", net.whoTells(0, 51, 2), 51);
      check.same("of itself", net.whoTells(0, 17, 1), 17);
      check.same("of one in a TUNNEL", Nets.tunnelled(12).whoTells(0, 130, 1), 130);
    });
    s.test("Promise 28: FROM of any COMPLAINT: LOST", check -> {
      SeamarkNet net = Nets.line(100, 100, 100);
      check.same("by 1", net.whoTells(0, 49, 1), 18);
      check.same("by 2", net.whoTells(0, 49, 2), 34);
    });
    s.test("Promise 28: FROM of any COMPLAINT: NO WAY", check -> {
      SeamarkNet net = Nets.line(100, 100, 100);
      check.same("by 1", net.whoTells(0, 90, 40), 18);
      net.addTunnel(0, 17);
      net.addRoute(0, 91, 8, -1);
      check.same("by itself", net.whoTells(0, 91, 40), 17);
    });
    s.test("Promise 28: FROM of any COMPLAINT: one of the WRAPPED PACKET, too", check -> {
      SeamarkNet net = Nets.tunnelled(100);
      net.addRoute(1, 49, 8, 70);
      check.same("by 1", net.whoTells(0, 130, 1), 18);
    });
    s.test("Promise 28: an ASK of 8 comes through the smallest WIDTH", check ->
        check.same("whoTells", Nets.line(12, 12, 12).whoTells(0, 49, 40), 49));
  }

  // ---- promise 29

  private static void promise29(Sentences s) {
    s.test("Promise 29: IndexOutOfBoundsException if there is no such MACHINE", check -> {
      Refused.bounds(check, BUSY, net -> net.hops(-1, 17), net -> net.hops(4, 17),
          net -> net.hops(8, 17), net -> net.hops(LOW, 17), net -> net.hops(HIGH, 17));
      check.same("the last one", Nets.busy().hops(3, 17), 3);
    });
    s.test("Promise 29: IllegalArgumentException if to is not 0 to 255", check -> {
      Refused.argument(check, BUSY, net -> net.hops(0, -1), net -> net.hops(0, 256),
          net -> net.hops(0, LOW), net -> net.hops(0, HIGH));
      check.same("0", Nets.busy().hops(0, 0), -1);
      check.same("255", Nets.busy().hops(0, 255), -1);
    });
    s.test("Promise 29: of several exceptions that named first", check ->
        Refused.bounds(check, BUSY, net -> net.hops(4, 256), net -> net.hops(-1, -1)));
  }

  private static void promise29Ttl(Sentences s) {
    s.test("Promise 29: the least TTL: 1, to itself and to the next one", check -> {
      SeamarkNet net = Nets.line(100, 100, 100);
      check.same("itself", net.hops(1, 35), 1);
      check.same("the next one", net.hops(1, 34), 1);
      check.same("the far PORT of the next one", net.hops(0, 35), 1);
    });
    s.test("Promise 29: the least TTL: up to 7, as there are 8 MACHINES", check -> {
      SeamarkNet net = Nets.funnel(6);
      for (int machine = 1; machine <= 7; machine++) {
        // Those between 1 and 7 are not asked for: 0 has no ROUTE to them.
        int due = machine == 1 || machine == 7 ? machine : -1;
        check.same("to " + machine, net.hops(0, 32 * (machine - 1) + 2), due);
        check.same("from " + machine, net.hops(machine, 1), due);
      }
    });
    s.test("Promise 29: the least TTL: by a TUNNEL that of the one in it counts", check -> {
      SeamarkNet net = Nets.behind();
      check.same("3 does not FORWARD it", net.hops(0, 161), -1);
      net.setForwarding(3, true);
      net.setForwarding(4, true);
      net.addRoute(4, 17, 8, 162);
      check.same("one TTL for 3", net.hops(0, 161), 2);
    });
    s.test("Promise 29: -1 without an ANSWER, though there are COMPLAINTS", check -> {
      check.same("LOST", roundAndRound().hops(0, 200), -1);
      check.same("NO WAY", Nets.line(100, 100, 100).hops(0, 90), -1);
    });
    s.test("Promise 29: -1 without one, or if it does not come to be", check -> {
      check.same("none", Nets.street(40).hops(0, 40), -1);
      check.same("no WAY", Nets.street(40).hops(0, 200), -1);
      SeamarkNet net = Nets.line(100, 100, 100);
      net.dropRoute(3);
      check.same("an ANSWER that the MACHINE does not NOTE", net.hops(0, 49), -1);
    });
    s.test("Promise 29: each TTL in the net as it is now, not behind the TTL ahead", check -> {
      SeamarkNet net = Nets.steps201();
      check.same("KNOWN ones would make it 5", net.hops(0, 113), -1);
      net.send(0, 113, true, 8, 40, false);
      for (int steps = 0; steps < 5; steps++) {
        net.step(60);
      }
      check.same("now they are KNOWN", net.hops(0, 113) > 0, true);
    });
  }

  // ---- promise 30

  private static void promise30(Sentences s) {
    s.test("Promise 30: IndexOutOfBoundsException if there is no such MACHINE", check -> {
      Refused.bounds(check, BUSY, net -> net.widest(-1, 17), net -> net.widest(4, 17),
          net -> net.widest(8, 17), net -> net.widest(LOW, 17), net -> net.widest(HIGH, 17));
      check.same("the last one", Nets.busy().widest(3, 49), 196);
    });
    s.test("Promise 30: IllegalArgumentException if to is not 0 to 255", check -> {
      Refused.argument(check, BUSY, net -> net.widest(0, -1), net -> net.widest(0, 256),
          net -> net.widest(0, LOW), net -> net.widest(0, HIGH));
      check.same("0", Nets.busy().widest(0, 0), -1);
      check.same("255", Nets.busy().widest(0, 255), -1);
    });
    s.test("Promise 30: of several exceptions that named first", check ->
        Refused.bounds(check, BUSY, net -> net.widest(4, 256), net -> net.widest(-1, -1)));
    s.test("Promise 30: with TTL 32: enough for 8 MACHINES, not for ever", check -> {
      SeamarkNet net = Nets.funnel(6);
      for (int cable = 0; cable < 7; cable++) {
        net.setWidth(cable, 200);
      }
      check.same("to the eighth one", net.widest(0, 194), 196);
      check.same("round and round", roundAndRound().widest(0, 200), -1);
    });
    s.test("Promise 30: behind the one ahead: with what is KNOWN by it", check -> {
      SeamarkNet net = Nets.byTheOneAhead();
      check.same("the second one has an ANSWER in 12 PIECES", net.widest(0, 18), 96);
      net.setWidth(0, 100);
      check.same("as the first one it has none", net.widest(0, 18), -1);
    });
  }

  private static void promise30Asks(Sentences s) {
    s.test("Promise 30: -1 if one is COMPLAINED of otherwise", check -> {
      SeamarkNet net = Nets.line(100, 100, 100);
      check.same("the first one: NO WAY", net.widest(1, 90), -1);
      check.same("the second one: NO WAY", net.widest(0, 90), -1);
      SeamarkNet lost = roundAndRound();
      lost.setWidth(0, 200);
      check.same("the first one: LOST", lost.widest(0, 200), -1);
    });
    s.test("Promise 30: -1 if one has none", check -> {
      SeamarkNet net = Nets.line(200, 100, 100);
      check.same("the first one", net.widest(0, 20), -1);
      check.same("the second one", net.widest(0, 36), -1);
      net.setForwarding(2, false);
      check.same("behind TOO WIDE", net.widest(0, 49), -1);
    });
    s.test("Promise 30: -1 if it does not come to be", check ->
        check.same("no WAY", Nets.street(40).widest(0, 200), -1));
    s.test("Promise 30: the sixth one may have an ANSWER", check ->
        check.same("widest", Nets.funnel(5).widest(0, 32 * 5 + 2), 196 - 5 * 10));
    s.test("Promise 30: behind 6 of them -1", check ->
        check.same("widest", Nets.funnel(6).widest(0, 32 * 6 + 2), -1));
  }

  private static void promise30Sizes(Sentences s) {
    s.test("Promise 30: the first one with the SIZE 196", check -> {
      check.same("all are wide", Nets.line(200, 200, 200).widest(0, 49), 196);
      check.same("to itself", Nets.line(12, 12, 12).widest(0, 17), 196);
      check.same("by a TUNNEL", Nets.tunnelled(70).widest(0, 130), 196);
    });
    s.test("Promise 30: the next one with the SIZE ABOUT - 4", check -> {
      for (int width = 12; width < 200; width++) {
        SeamarkNet net = Nets.street(width);
        check.same("W " + width, net.widest(0, 34), width - 4);
      }
    });
    s.test("Promise 30: the smallest WIDTH on the way", check -> {
      check.same("the last one", Nets.line(100, 50, 12).widest(0, 49), 8);
      check.same("the first one", Nets.line(12, 50, 100).widest(0, 49), 8);
      check.same("199", Nets.line(200, 199, 200).widest(0, 49), 195);
    });
    s.test("Promise 30: ASKS stay WHOLE, the ANSWER may come in PIECES", check -> {
      SeamarkNet net = Nets.byTheOneAhead();
      net.send(0, 18, true, 1, 9, false);
      net.step(60);
      check.same("96 by 12 wide CABLES", net.widest(0, 18), 96);
    });
  }

  // ---- promise 31

  /** The digest by the document, without a bound, and wrapped at the end alone. */
  private static long digestOf(SeamarkNet net, int cables, int... addresses) {
    Sum sum = new Sum();
    sum.add(net.machines(), net.packets(), net.steps(), net.gone(), net.frames());
    for (int frame = 0; frame < net.frames(); frame++) {
      for (int what = 0; what < 8; what++) {
        sum.add(net.frame(frame, what));
      }
    }
    for (int cable = 0; cable < cables; cable++) {
      sum.add(net.carried(cable));
    }
    for (int machine = 0; machine < net.machines(); machine++) {
      sum.add(net.waiting(machine), net.heaps(machine), net.noted(machine));
      for (int back = 0; back < Math.min(3, net.noted(machine)); back++) {
        for (int what = 0; what < 6; what++) {
          sum.add(net.note(machine, back, what));
        }
      }
      for (int address : addresses) {
        sum.add(net.knows(machine, address));
      }
    }
    return sum.d.longValue();
  }

  private static final class Sum {
    private BigInteger d = BigInteger.valueOf(58062);

    private void add(int... values) {
      for (int v : values) {
        d = d.multiply(BigInteger.valueOf(31)).add(BigInteger.valueOf(v));
      }
    }
  }

  private static void digestOfNone(Sentences s) {
    s.test("Promise 31: d starts with 58062, and five numbers follow always", check ->
        check.same("digest()", new SeamarkNet().digest(), 58062L * 28629151L));
    s.test("Promise 31: the five numbers in their order", check -> {
      SeamarkNet net = new SeamarkNet();
      net.addMachine(true);
      long d = 58062L * 31 + 1;
      check.same("a MACHINE", net.digest(), d * 31 * 31 * 31 * 31 * 31 * 31 * 31);
    });
    s.test("Promise 31: for each CABLE, of 0 to 8", check -> {
      SeamarkNet net = new SeamarkNet();
      for (int cables = 0; cables <= 8; cables++) {
        check.same("digest()", net.digest(), digestOf(net, cables));
        if (cables < 8) {
          net.addCable(12);
        }
      }
    });
    s.test("Promise 31: it wraps around as a 64-bit integer", check -> {
      boolean isNegative = false;
      boolean isPositive = false;
      for (int machines = 0; machines <= 8; machines++) {
        SeamarkNet net = asked(machines);
        isNegative = isNegative || net.digest() < 0;
        isPositive = isPositive || net.digest() > 0;
        int[] addresses = new int[machines];
        for (int machine = 0; machine < machines; machine++) {
          addresses[machine] = 10 * machine;
        }
        digest(check, net, 1, addresses);
      }
      check.same("below 0 and above", isNegative && isPositive, true);
    });
  }

  /** So many MACHINES on a CABLE, each of which asks for the next one. */
  private static SeamarkNet asked(int machines) {
    SeamarkNet net = new SeamarkNet();
    net.addCable(40);
    for (int machine = 0; machine < machines; machine++) {
      net.addMachine(true);
      net.addPort(machine, 0, 10 * machine, 0);
      net.send(machine, 10 * machine + 10, false, 5, 5, false);
    }
    return net;
  }

  private static void digest(Check check, SeamarkNet net, int cables, int... addresses) {
    check.same("digest()", net.digest(), digestOf(net, cables, addresses));
  }

  private static void digestParts(Sentences s) {
    s.test("Promise 31: for each FRAME frame() of 0 to 7", check -> {
      for (int steps = 0; steps < 20; steps++) {
        SeamarkNet net = Nets.street(12);
        for (int step = 0; step <= steps; step++) {
          if (step < 3) {
            net.send(step, 33 + (step + 1) % 3, true, 9 * step, 9, false);
          }
          net.step(1);
        }
        digest(check, net, 1, 33, 34, 35);
      }
    });
    s.test("Promise 31: note() of the latest 3, or all", check -> {
      for (int count = 0; count < 13; count++) {
        SeamarkNet net = Nets.street(12);
        for (int size = 0; size < count; size++) {
          net.send(0, 33, false, size, size + 1, false);
        }
        digest(check, net, 1, 33, 34, 35);
      }
    });
    s.test("Promise 31: knows() of the ADDRESS of each PORT, MACHINE by MACHINE", check -> {
      for (int steps = 1; steps < 40; steps += 3) {
        SeamarkNet net = Nets.line(40, 24, 100);
        net.addPort(0, 2, 60, 8);
        net.send(0, 49, true, 90, 9, false);
        net.step(steps);
        digest(check, net, 3, 17, 60, 18, 35, 34, 51, 49);
      }
    });
    s.test("Promise 31: of a busy net, and of a full one", check -> {
      digest(check, Nets.busy(), 4, 17, 18, 35, 34, 51, 49, 130);
      digest(check, Nets.full(), 8, 17, 211, 212, 213, 18, 35, 34, 51, 49, 130, 204, 205, 206, 207);
    });
    s.test("Promise 31: waiting(), heaps() and gone()", check -> {
      for (int heaps = 0; heaps < 5; heaps++) {
        SeamarkNet net = Nets.street(12);
        for (int heap = 0; heap < heaps; heap++) {
          net.forget(0);
          net.send(0, 34, false, 55, 9, false);
          net.step(60);
        }
        net.send(0, 40, false, 9, 9, false);
        digest(check, net, 1, 33, 34, 35);
      }
    });
  }
}
