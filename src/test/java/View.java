/** What can be asked of a net, as texts. */
final class View {
  private static final int[] ADDRESSES = {0, 17, 34, 49, 130, 255};

  private View() {}

  /** "CABLE from to sort NUMBER-or-ADDRESS SIZE PLACE KIND". */
  static String frame(SeamarkNet net, int frame) {
    StringBuilder text = new StringBuilder();
    for (int what = 0; what < 8; what++) {
      text.append(what == 0 ? "" : " ").append(net.frame(frame, what));
    }
    return text.toString();
  }

  /** "KIND FROM SIZE TTL NUMBER ABOUT". */
  static String note(SeamarkNet net, int machine, int back) {
    StringBuilder text = new StringBuilder();
    for (int what = 0; what < 6; what++) {
      text.append(what == 0 ? "" : " ").append(net.note(machine, back, what));
    }
    return text.toString();
  }

  /** "PORT HOP l". */
  static String way(SeamarkNet net, int machine, int to) {
    return net.way(machine, to, 0) + " " + net.way(machine, to, 1) + " " + net.way(machine, to, 2);
  }

  /**
   * All that can be told of a net: what it answers, how much room it has, and what it does from
   * here on. It changes the net, and makes some 400 calls if that is full.
   */
  static String all(SeamarkNet net) {
    StringBuilder text = new StringBuilder();
    text.append(net.digest()).append(' ').append(net.use());
    int machines = net.machines();
    for (int machine = 0; machine < machines; machine++) {
      for (int back = 3; back < Math.min(net.noted(machine), 10); back++) {
        text.append("\nnote ").append(note(net, machine, back));
      }
      for (int address : ADDRESSES) {
        text.append("\nway ").append(way(net, machine, address));
      }
    }
    text.append("\nthen ").append(net.step(7)).append(' ').append(net.digest());
    for (int cable = 0; cable < 8; cable++) {
      int number = cable;
      text.append("\nwidth ").append(Check.answerOf(() -> net.setWidth(number, 200)));
    }
    for (int machine = 0; machine < machines; machine++) {
      text.append("\nmachine ").append(net.setForwarding(machine, true));
      text.append(' ').append(net.giveUp(machine)).append(' ').append(net.forget(machine));
      text.append(' ').append(room(net, machine));
    }
    text.append("\nroom ").append(Check.answerOf(() -> net.addMachine(true)));
    text.append(' ').append(Check.answerOf(() -> net.addCable(20)));
    text.append("\nat last ").append(net.step(60)).append(' ').append(net.step(60));
    text.append(' ').append(net.digest());
    return text.toString();
  }

  /** What a MACHINE answers as its last ROUTE is taken away, and as more is added. */
  private static String room(SeamarkNet net, int machine) {
    return Check.answerOf(() -> net.dropRoute(machine))
        + " " + Check.answerOf(() -> net.addTunnel(machine, 3))
        + " " + Check.answerOf(() -> net.addPort(machine, 0, 240 + machine, 8));
  }
}
