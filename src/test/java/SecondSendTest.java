/** The last paragraph of promise 8: the second packet in a row from one source. */
public final class SecondSendTest {
    private static final Check check = new Check();

    public static void main(String[] args) {
        check.sentence("P8: right after the second send carried(k) is 0 or 1 for every link k",
            SecondSendTest::eachLinkOnceAtMost);
        check.sentence("P8: right after the second send received(r) is 0 or 1 for every router r",
            SecondSendTest::eachRouterOnceAtMost);
        check.sentence("P8: every router r with received(r) == 1 had received(r) >= 1 after the first send",
            SecondSendTest::onlyWhereTheFirstWas);
        check.sentence("P8: followed only by getter calls and then by a second send: in all the networks here",
            SecondSendTest::everyNetwork);
        check.sentence("P8: the first send of the two meets timers that run", SecondSendTest::firstMeetsTimers);
        check.finish();
    }

    /** Two links between all twelve: the first flood crosses the dearer one twelve times. */
    private static void eachLinkOnceAtMost() {
        DenseCast x = new DenseCast(12, 2, 4);
        Nets.wire(x, 0, 0, 1, 2, 3, 4, 5, 6, 7, 8, 9, 10, 11);
        Nets.wire(x, 1, 0, 1, 2, 3, 4, 5, 6, 7, 8, 9, 10, 11);
        x.setCost(1, 2);
        x.join(7);
        x.send(5);
        check.due("carried(1) by the first", 12, x.carried(1));
        View.all(x);
        x.send(5);
        check.due("carried(0) by the second", 1, x.carried(0));
        check.due("carried(1) by the second", 0, x.carried(1));
        x.tick(4);
        x.send(5);
        check.due("carried(1) by the winner alone", 1, x.carried(1));
    }

    /** Ten routers between source 0 and router 11: the first flood brings it ten copies. */
    private static void eachRouterOnceAtMost() {
        DenseCast x = new DenseCast(12, 2, 4);
        Nets.wire(x, 0, 0, 1, 2, 3, 4, 5, 6, 7, 8, 9, 10);
        Nets.wire(x, 1, 1, 2, 3, 4, 5, 6, 7, 8, 9, 10, 11);
        x.join(11);
        check.due("the first send(0)", 1, x.send(0));
        check.due("received(11) by the first", 10, x.received(11));
        View.all(x);
        check.due("the second send(0)", 1, x.send(0));
        check.due("received(11) by the second", 1, x.received(11));
        for (int router = 0; router < 11; router++) {
            check.due("received(" + router + ") by the second", 1, x.received(router));
        }
    }

    private static void onlyWhereTheFirstWas() {
        DenseCast x = Nets.line(12, 4);
        x.join(3);
        x.send(0);
        x.tick(3);
        x.send(0);
        check.due("received(4) by the first, behind a prune", 0, x.received(4));
        View.all(x);
        x.send(0);
        for (int router = 0; router < 12; router++) {
            check.due("received(" + router + ") by the second", router <= 3 ? 1 : 0, x.received(router));
        }
        x.tick(1);
        x.send(0);
        check.due("received(11) after the hold", 1, x.received(11));
        x.send(0);
        check.due("received(11) by the second after the hold", 0, x.received(11));
        check.due("received(3) by the second after the hold", 1, x.received(3));
    }

    private static void sendTwice(DenseCast x, String where, int source, int routers, int links) {
        check.due(where + "send(" + source + ") is taken", true, x.send(source) >= 0);
        int[] first = new int[routers];
        for (int router = 0; router < routers; router++) {
            first[router] = x.received(router);
        }
        View.all(x);
        x.send(source);
        for (int link = 0; link < links; link++) {
            boolean holds = x.carried(link) == 0 || x.carried(link) == 1;
            check.due(where + "carried(" + link + ") is 0 or 1", true, holds);
        }
        for (int router = 0; router < routers; router++) {
            int second = x.received(router);
            check.due(where + "received(" + router + ") is 0 or 1", true, second == 0 || second == 1);
            check.due(where + "received(" + router + ") where the first was", true, second == 0 || first[router] >= 1);
        }
        check.due(where + "received(" + source + ")", 1, x.received(source));
    }

    private static void everyNetwork() {
        for (Edges.Net net : Edges.nets()) {
            for (int source = 0; source < net.routers(); source++) {
                net.x().tick(64);
                sendTwice(net.x(), net.name() + "after the hold, ", source, net.routers(), net.links());
                net.x().setCost(0, 1);
                sendTwice(net.x(), net.name() + "after a RESET, ", source, net.routers(), net.links());
            }
        }
        for (int members = 0; members < 4096; members += 7) {
            DenseCast x = meshed();
            for (int router = 0; router < 12; router++) {
                if ((members >> router & 1) == 1) {
                    x.join(router);
                }
            }
            sendTwice(x, "members " + members + ": ", members % 12, 12, 16);
        }
    }

    /** Sixteen links, LANs of three and four among them, with many ways of the same cost. */
    private static DenseCast meshed() {
        DenseCast x = new DenseCast(12, 16, 5);
        for (int link = 0; link < 12; link++) {
            Nets.wire(x, link, link, (link + 1) % 12, (link + 5) % 12);
        }
        for (int link = 12; link < 16; link++) {
            Nets.wire(x, link, link - 12, link - 8, link - 4, (link - 3) % 12);
        }
        x.setCost(3, 2);
        x.setCost(8, 2);
        x.setPreference(4, 1);
        x.setPreference(9, 2);
        return x;
    }

    private static void firstMeetsTimers() {
        for (int passed = 0; passed <= 5; passed++) {
            for (int source = 0; source < 12; source++) {
                DenseCast x = meshed();
                x.join((source + 3) % 12);
                x.send(source);
                x.tick(passed);
                x.join((source + 7) % 12);
                x.leave((source + 3) % 12);
                sendTwice(x, "after " + passed + " ticks: ", source, 12, 16);
            }
        }
    }
}
