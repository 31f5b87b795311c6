/** Nets that several tests use. */
final class Nets {
  private Nets() {}

  /** One CABLE of the WIDTH, MACHINES 0 to 2 with the ADDRESSES 33, 34, 35, no FORWARDING. */
  static SeamarkNet street(int width) {
    SeamarkNet net = new SeamarkNet();
    net.addCable(width);
    for (int machine = 0; machine < 3; machine++) {
      net.addMachine(false);
      net.addPort(machine, 0, 33 + machine, 3);
    }
    return net;
  }

  /** 0 (17) - CABLE 0 - (18) 1 (35) - CABLE 1 - (34) 2 (51) - CABLE 2 - (49) 3. */
  static SeamarkNet line(int width0, int width1, int width2) {
    SeamarkNet net = new SeamarkNet();
    net.addCable(width0);
    net.addCable(width1);
    net.addCable(width2);
    net.addMachine(false);
    net.addMachine(true);
    net.addMachine(true);
    net.addMachine(false);
    net.addPort(0, 0, 17, 4);
    net.addPort(1, 0, 18, 4);
    net.addPort(1, 1, 35, 4);
    net.addPort(2, 1, 34, 4);
    net.addPort(2, 2, 51, 4);
    net.addPort(3, 2, 49, 4);
    net.addRoute(0, 0, 0, 18);
    net.addRoute(1, 48, 4, 34);
    net.addRoute(2, 16, 4, 35);
    net.addRoute(3, 0, 0, 51);
    return net;
  }

  /** The line, with a TUNNEL between 0 (FAR 49) and 3 (FAR 17) by which 128 to 255 are reached. */
  static SeamarkNet tunnelled(int width) {
    SeamarkNet net = line(width, width, width);
    net.addCable(200);
    net.addPort(3, 3, 130, 8);
    net.addTunnel(0, 49);
    net.addRoute(0, 128, 1, -1);
    net.addTunnel(3, 17);
    return net;
  }

  /** The line, where 0 wraps what is for 200, 1 wraps that again, and 3 unwraps both. */
  static SeamarkNet tunnelInTunnel(int width) {
    SeamarkNet net = line(width, width, width);
    net.addCable(200);
    net.addPort(3, 3, 130, 8);
    net.addPort(3, 3, 200, 8);
    net.addTunnel(0, 130);
    net.addRoute(0, 200, 8, -1);
    net.addTunnel(1, 49);
    net.addRoute(1, 130, 8, -1);
    net.addTunnel(3, 17);
    net.addTunnel(3, 35);
    return net;
  }

  /** What 0 has for 200 it wraps for 100; 1, by way to that, wraps it for 101; 0 that for 100. */
  static SeamarkNet loop(int width0, int width1) {
    SeamarkNet net = new SeamarkNet();
    net.addCable(width0);
    net.addCable(width1);
    net.addMachine(true);
    net.addMachine(true);
    net.addPort(0, 0, 1, 4);
    net.addPort(1, 0, 2, 4);
    net.addPort(1, 1, 17, 4);
    net.addPort(0, 1, 18, 4);
    net.addTunnel(0, 100);
    net.addTunnel(1, 101);
    net.addRoute(0, 100, 8, 2);
    net.addRoute(1, 100, 8, -1);
    net.addRoute(1, 101, 8, 18);
    net.addRoute(0, 101, 8, -1);
    net.addRoute(0, 200, 8, -1);
    return net;
  }
}
