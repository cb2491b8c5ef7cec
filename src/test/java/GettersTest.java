/** Promises 12 to 15: the getters of protocol state, packet record and settings. */
public final class GettersTest {
    private static final Check check = new Check();

    public static void main(String[] args) {
        forwarderLastsUntilReset();
        pruneLeftIsPerSource();
        recordIsOfTheLastPacket();
        statesOfLinksAndRouters();
        gettersChangeNothing();
        check.finish();
    }

    private static void forwarderLastsUntilReset() {
        DenseCast x = Nets.diamond(3);
        check.due("P12 forwarder(0, 2) at the start", -1, x.forwarder(0, 2));
        x.send(0);
        check.due("P12 forwarder(0, 2)", 2, x.forwarder(0, 2));
        x.send(0);
        x.tick(64);
        x.join(5);
        x.leave(5);
        x.send(4);
        check.due("P12 forwarder(0, 2) later", 2, x.forwarder(0, 2));
        check.due("P12 forwarder(4, 1), where 0 meets 2", 2, x.forwarder(4, 1));
        check.due("P12 forwarder(4, 0)", -1, x.forwarder(4, 0));
        x.setCost(4, 1);
        check.due("P12 forwarder(0, 2) after a RESET", -1, x.forwarder(0, 2));
        check.due("P12 forwarder(4, 1) after a RESET", -1, x.forwarder(4, 1));
    }

    private static void pruneLeftIsPerSource() {
        DenseCast x = Nets.line(12, 16);
        x.send(11);
        for (int source = 0; source < 12; source++) {
            for (int link = 0; link < 11; link++) {
                String call = "P13 pruneLeft(" + source + ", " + link + ")";
                check.due(call, source == 11 ? 16 : 0, x.pruneLeft(source, link));
            }
        }
        x.attach(0, 5);
        check.due("P13 pruneLeft(11, 10) after a RESET", 0, x.pruneLeft(11, 10));
    }

    private static void recordIsOfTheLastPacket() {
        DenseCast x = Nets.diamond(3);
        x.send(0);
        check.due("P14 received(0)", 1, x.received(0));
        check.due("P14 received(3)", 2, x.received(3));
        check.due("P14 carried(2)", 2, x.carried(2));
        x.tick(5);
        x.join(1);
        x.leave(1);
        x.send(9);
        check.due("P14 received(3) without a new packet", 2, x.received(3));
        check.due("P14 carried(2) without a new packet", 2, x.carried(2));
        x.setPreference(0, 0);
        for (int router = 0; router < 6; router++) {
            check.due("P14 received(" + router + ") after a RESET", 0, x.received(router));
        }
        for (int link = 0; link < 5; link++) {
            check.due("P14 carried(" + link + ") after a RESET", 0, x.carried(link));
        }
    }

    private static void statesOfLinksAndRouters() {
        DenseCast x = new DenseCast(12, 16, 3);
        for (int router = 0; router < 12; router++) {
            Nets.wire(x, router, router);
            check.due("P15 linkState(" + router + ")", 1 + 16 * (1 << router), x.linkState(router));
        }
        Nets.wire(x, 15, 0, 1, 2, 3, 4, 5, 6, 7, 8, 9, 10, 11);
        x.setCost(15, 15);
        check.due("P15 linkState(15)", 15 + 16 * 4095, x.linkState(15));
        x.setPreference(11, 255);
        check.due("P15 routerState(11)", 255, x.routerState(11));
        x.join(11);
        check.due("P15 routerState(11), member", 511, x.routerState(11));
        x.setPreference(11, 1);
        check.due("P15 routerState(11), member", 257, x.routerState(11));
        x.leave(11);
        check.due("P15 routerState(11), no member", 1, x.routerState(11));
    }

    private static void gettersChangeNothing() {
        DenseCast x = Nets.busyDiamond(4);
        DenseCast y = Nets.busyDiamond(4);
        for (int i = 0; i < 3; i++) {
            View.all(x);
        }
        check.due("P12 state after getters", View.all(y), View.all(x));
        check.due("P12 send(0) after getters", y.send(0), x.send(0));
        check.due("P12 state after getters and a send", View.all(y), View.all(x));
    }
}
