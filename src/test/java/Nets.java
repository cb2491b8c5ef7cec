/** Networks that several tests start from. */
final class Nets {
    private Nets() {
    }

    /**
     * Six routers, five links, all of cost 1: 0-1 is link 0, 0-2 is link 1, the LAN of 1, 2 and 3
     * is link 2, 3-4 is link 3, 3-5 is link 4.
     */
    static DenseCast diamond(int hold) {
        DenseCast x = new DenseCast(6, 5, hold);
        wire(x, 0, 0, 1);
        wire(x, 1, 0, 2);
        wire(x, 2, 1, 2, 3);
        wire(x, 3, 3, 4);
        wire(x, 4, 3, 5);
        return x;
    }

    /** The diamond with members, costs and preferences set, and after packets of two sources. */
    static DenseCast busyDiamond(int hold) {
        DenseCast x = diamond(hold);
        x.setCost(3, 7);
        x.setPreference(4, 200);
        x.join(4);
        x.join(0);
        x.send(3);
        x.send(0);
        return x;
    }

    /** A line of routers: link k lies between router k and router k + 1. */
    static DenseCast line(int routers, int hold) {
        DenseCast x = new DenseCast(routers, routers - 1, hold);
        for (int link = 0; link < routers - 1; link++) {
            wire(x, link, link, link + 1);
        }
        return x;
    }

    /** A ring of routers: link k lies between k and k + 1, and the last link, of its own cost, closes it. */
    static DenseCast ring(int routers, int lastCost, int hold) {
        DenseCast x = new DenseCast(routers, routers, hold);
        for (int link = 0; link < routers; link++) {
            wire(x, link, link, (link + 1) % routers);
        }
        x.setCost(routers - 1, lastCost);
        return x;
    }

    /** Source 0 reaches 1, 2 and 3 over links 0, 1 and 2 of the given costs; all three and 4 are on link 3. */
    static DenseCast threeWays(int cost1, int cost2, int cost3) {
        DenseCast x = new DenseCast(5, 4, 3);
        wire(x, 0, 0, 1);
        wire(x, 1, 0, 2);
        wire(x, 2, 0, 3);
        wire(x, 3, 1, 2, 3, 4);
        x.setCost(0, cost1);
        x.setCost(1, cost2);
        x.setCost(2, cost3);
        x.setCost(3, 15);
        return x;
    }

    static void wire(DenseCast x, int link, int... routers) {
        for (int router : routers) {
            if (!x.attach(link, router)) {
                throw new IllegalStateException("attach(" + link + ", " + router + ") was refused");
            }
        }
    }

    /** What prunes, forwarders and record show after a RESET of the diamond. */
    static String freshProtocol() {
        DenseCast x = new DenseCast(6, 5, 1);
        return View.prunes(x) + View.forwarders(x) + View.record(x);
    }
}
