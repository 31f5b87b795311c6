/** Nets that several tests use. */
final class Nets {
  private Nets() {}

  /** One CABLE of the WIDTH, MACHINES 0 to 2 with the ADDRESSES 33, 34, 35, no FORWARDING. */
  static SeamarkNet street(int width) {
    SeamarkNet net = new SeamarkNet();
    net.addCable(width);
    for (int machine = 0; machine < 3; machine++) {
      net.addMachine(false);
      net.addPort(machine, 0, 33 + machine, 3);
    }
    return net;
  }

  /** 0 (17) - CABLE 0 - (18) 1 (35) - CABLE 1 - (34) 2 (51) - CABLE 2 - (49) 3. */
  static SeamarkNet line(int width0, int width1, int width2) {
    SeamarkNet net = new SeamarkNet();
    net.addCable(width0);
    net.addCable(width1);
    net.addCable(width2);
    net.addMachine(false);
    net.addMachine(true);
    net.addMachine(true);
    net.addMachine(false);
    net.addPort(0, 0, 17, 4);
    net.addPort(1, 0, 18, 4);
    net.addPort(1, 1, 35, 4);
    net.addPort(2, 1, 34, 4);
    net.addPort(2, 2, 51, 4);
    net.addPort(3, 2, 49, 4);
    net.addRoute(0, 0, 0, 18);
    net.addRoute(1, 48, 4, 34);
    net.addRoute(2, 16, 4, 35);
    net.addRoute(3, 0, 0, 51);
    return net;
  }

  /** The line, with a TUNNEL between 0 (FAR 49) and 3 (FAR 17) by which 128 to 255 are reached. */
  static SeamarkNet tunnelled(int width) {
    SeamarkNet net = line(width, width, width);
    net.addCable(200);
    net.addPort(3, 3, 130, 8);
    net.addTunnel(0, 49);
    net.addRoute(0, 128, 1, -1);
    net.addTunnel(3, 17);
    return net;
  }

  /** The line, where 0 wraps what is for 200, 1 wraps that again, and 3 unwraps both. */
  static SeamarkNet tunnelInTunnel(int width) {
    SeamarkNet net = line(width, width, width);
    net.addCable(200);
    net.addPort(3, 3, 130, 8);
    net.addPort(3, 3, 200, 8);
    net.addTunnel(0, 130);
    net.addRoute(0, 200, 8, -1);
    net.addTunnel(1, 49);
    net.addRoute(1, 130, 8, -1);
    net.addTunnel(3, 17);
    net.addTunnel(3, 35);
    return net;
  }

  /** What 0 has for 200 it wraps for 100; 1, by way to that, wraps it for 101; 0 that for 100. */
  static SeamarkNet loop(int width0, int width1) {
    SeamarkNet net = new SeamarkNet();
    net.addCable(width0);
    net.addCable(width1);
    net.addMachine(true);
    net.addMachine(true);
    net.addPort(0, 0, 1, 4);
    net.addPort(1, 0, 2, 4);
    net.addPort(1, 1, 17, 4);
    net.addPort(0, 1, 18, 4);
    net.addTunnel(0, 100);
    net.addTunnel(1, 101);
    net.addRoute(0, 100, 8, 2);
    net.addRoute(1, 100, 8, -1);
    net.addRoute(1, 101, 8, 18);
    net.addRoute(0, 101, 8, -1);
    net.addRoute(0, 200, 8, -1);
    return net;
  }

  /** The tunnelled line in the midst of its work, with room for one more of everything. */
  static SeamarkNet busy() {
    SeamarkNet net = tunnelled(24);
    for (int size = 0; size < 5; size++) {
      net.send(0, 17, false, size, 2, false);
    }
    net.send(0, 49, true, 60, 9, false);
    net.step(14);
    net.send(2, 60, false, 30, 9, false);
    net.send(0, 130, true, 8, 9, false);
    return net;
  }

  /** The busy net with 8 CABLES and 8 MACHINES, and with all that MACHINE 0 can have. */
  static SeamarkNet full() {
    SeamarkNet net = busy();
    for (int more = 4; more < 8; more++) {
      net.addCable(12 + more);
      net.addMachine(false);
      net.addPort(more, more, 200 + more, 8);
    }
    for (int port = 1; port < 4; port++) {
      net.addPort(0, port + 3, 210 + port, 8);
    }
    net.addTunnel(0, 205);
    for (int route = 2; route < 6; route++) {
      net.addRoute(0, 16 * route, 6, 18);
    }
    return net;
  }

  /** The line with a TUNNEL from 0 to 3 for 160 on, and 4 (161) behind 3 on a CABLE of its own. */
  static SeamarkNet behind() {
    SeamarkNet net = line(100, 100, 100);
    net.addCable(100);
    net.addMachine(false);
    net.addPort(3, 3, 162, 3);
    net.addPort(4, 3, 161, 3);
    net.addTunnel(0, 49);
    net.addRoute(0, 160, 3, -1);
    net.addTunnel(3, 17);
    return net;
  }

  /**
   * 1 sends to far by CABLE 0, but KNOWS the MARK of that PORT of 0 as being on CABLE 1. The other
   * two ADDRESSES are of 1; the first 6 bits of all three are the same, and not those of 101.
   */
  static SeamarkNet crossed(int far, int near, int other) {
    SeamarkNet net = new SeamarkNet();
    net.addCable(100);
    net.addCable(100);
    net.addMachine(true);
    net.addMachine(true);
    net.addPort(0, 0, 101, 8);
    net.addPort(1, 0, 102, 8);
    net.addPort(1, 1, near, 2);
    net.addPort(0, 1, far, 2);
    net.send(1, far, false, 3, 9, false);
    net.step(60);
    net.addPort(1, 0, other, 6);
    net.addRoute(0, other, 8, near);
    return net;
  }

  /** 0 to 4 on four CABLES in a row, with a TUNNEL from 0 to 4 for 128 on; all HOPS are KNOWN. */
  static SeamarkNet chain(int... widths) {
    SeamarkNet net = new SeamarkNet();
    for (int width : widths) {
      net.addCable(width);
    }
    net.addCable(200);
    for (int machine = 0; machine < 5; machine++) {
      net.addMachine(true);
      if (machine > 0) {
        net.addPort(machine, machine - 1, 16 * (machine - 1) + 2, 4);
        net.addRoute(machine, 1, 8, 16 * (machine - 1) + 1);
      }
      if (machine < 4) {
        net.addPort(machine, machine, 16 * machine + 1, 4);
        net.addRoute(machine, 50, 8, 16 * machine + 2);
      }
    }
    net.addPort(4, 4, 130, 8);
    net.addTunnel(0, 50);
    net.addRoute(0, 128, 1, -1);
    net.addTunnel(4, 1);
    net.send(0, 50, true, 1, 32, false);
    net.step(60);
    return net;
  }

  /** 1 sends all to 0 by way of 3, on a narrow CABLE; it KNOWS 3 by the first COMPLAINT only. */
  static SeamarkNet byTheOneAhead() {
    SeamarkNet net = new SeamarkNet();
    net.addCable(200);
    net.addCable(100);
    net.addCable(12);
    for (int machine = 0; machine < 4; machine++) {
      net.addMachine(true);
    }
    net.addPort(0, 0, 1, 4);
    net.addPort(1, 0, 2, 4);
    net.addPort(1, 1, 17, 4);
    net.addPort(2, 1, 18, 4);
    net.addPort(1, 2, 33, 4);
    net.addPort(3, 2, 34, 4);
    net.addPort(0, 2, 35, 4);
    net.addRoute(0, 18, 8, 2);
    net.addRoute(2, 1, 8, 17);
    net.addRoute(1, 1, 8, 34);
    net.addRoute(3, 1, 8, 35);
    return net;
  }

  /** 0 on a CABLE of 200, then so many CABLES, each by 10 narrower, up to the last MACHINE. */
  static SeamarkNet funnel(int narrower) {
    SeamarkNet net = new SeamarkNet();
    int last = narrower + 1;
    for (int cable = 0; cable <= narrower; cable++) {
      net.addCable(200 - 10 * cable);
    }
    net.addMachine(true);
    net.addPort(0, 0, 1, 3);
    for (int machine = 1; machine <= last; machine++) {
      net.addMachine(true);
      net.addPort(machine, machine - 1, 32 * (machine - 1) + 2, 3);
      if (machine < last) {
        net.addPort(machine, machine, 32 * machine + 1, 3);
      }
    }
    for (int machine = 0; machine <= last; machine++) {
      if (machine < last) {
        net.addRoute(machine, 32 * narrower + 2, 8, 32 * machine + 2);
      }
      if (machine > 0) {
        net.addRoute(machine, 1, 8, 32 * (machine - 1) + 1);
      }
    }
    return net;
  }

  /** The chain with 5 (161) behind it on a CABLE of 150; 0 reaches that by the TUNNEL. */
  static SeamarkNet narrowTunnel() {
    SeamarkNet net = chain(12, 12, 12, 12);
    net.setWidth(4, 150);
    net.addMachine(false);
    net.addPort(4, 4, 162, 3);
    net.addPort(5, 4, 161, 3);
    net.addRoute(5, 1, 8, 162);
    return net;
  }

  /** The ANSWER of 113 to an ASK of 0 with the SIZE 8 comes in the STEP 200; found by a search. */
  static SeamarkNet steps200() {
    int[][] ports = {{0, 1}, {0, 2}, {1, 17}, {2, 33}, {2, 34}, {3, 49}, {4, 65}, {5, 81}, {6, 97},
        {7, 113}, {7, 114}};
    int[][] tunnels = {{0, 49}, {2, 81}, {3, 98}, {3, 2}, {4, 113}, {4, 114}, {5, 34}, {7, 81},
        {7, 65}};
    int[][] routes = {{0, 113, 17}, {0, 65, 81}, {1, 113, 81}, {1, 2, 65}, {1, 34, 113},
        {2, 1, 49}, {2, 65, 97}, {2, 113, 65}, {2, 2, 17}, {3, 114, 33}, {3, 2, 113}, {3, 34, -2},
        {3, 1, -2}, {3, 65, 17}, {4, 113, -2}, {4, 34, 49}, {4, 1, 81}, {4, 114, 49}, {5, 2, 97},
        {5, 34, 17}, {5, 113, -1}, {5, 65, -1}, {5, 1, -1}, {6, 2, 33}, {6, 34, 65}, {6, 65, 49},
        {7, 65, 1}, {7, 1, -2}, {7, 34, 97}, {7, 2, 81}};
    return found(12, ports, tunnels, routes);
  }

  /** The ANSWER of 113 to an ASK of 0 with the SIZE 8 comes in the STEP 201; found by a search. */
  static SeamarkNet steps201() {
    int[][] ports = {{0, 1}, {1, 17}, {1, 18}, {2, 33}, {3, 49}, {3, 50}, {4, 65}, {5, 81}, {6, 97},
        {7, 113}};
    int[][] tunnels = {{1, 50}, {1, 49}, {2, 97}, {3, 18}, {3, 17}, {4, 65}, {4, 81}, {5, 65},
        {6, 33}};
    int[][] routes = {{0, 113, 49}, {1, 97, -1}, {1, 1, -1}, {1, 50, 97}, {1, 33, 81},
        {1, 113, 65}, {2, 97, 17}, {2, 113, -1}, {2, 50, 113}, {2, 1, -1}, {3, 33, -2}, {3, 17, 33},
        {3, 1, 65}, {3, 18, 97}, {3, 113, -1}, {4, 33, 49}, {4, 1, 33}, {4, 113, -2}, {5, 113, 33},
        {6, 18, -1}, {6, 50, -1}, {6, 33, 65}, {6, 1, 81}, {7, 1, 17}};
    return found(15, ports, tunnels, routes);
  }

  /** 8 MACHINES on one CABLE: {MACHINE, ADDRESS}, {MACHINE, FAR}, {MACHINE, ADDRESS, VIA}. */
  private static SeamarkNet found(int width, int[][] ports, int[][] tunnels, int[][] routes) {
    SeamarkNet net = new SeamarkNet();
    net.addCable(width);
    for (int machine = 0; machine < 8; machine++) {
      net.addMachine(true);
    }
    for (int[] port : ports) {
      net.addPort(port[0], 0, port[1], 0);
    }
    for (int[] tunnel : tunnels) {
      net.addTunnel(tunnel[0], tunnel[1]);
    }
    for (int[] route : routes) {
      net.addRoute(route[0], route[1], 8, route[2]);
    }
    return net;
  }
}
