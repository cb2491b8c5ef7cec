/** Boundary cases of promise 3, each under the words of the document that name it. */
public final class DetachEdgeTest {
    private static final Check check = new Check();

    public static void main(String[] args) {
        check.sentence("P3: 0 <= link < L", DetachEdgeTest::linkOutside);
        check.sentence("P3: 0 <= router < R", DetachEdgeTest::routerOutside);
        check.sentence("P3: router is in A(link)", DetachEdgeTest::notThere);
        check.sentence("P3: router is in A(link), which has none", DetachEdgeTest::noneThere);
        check.sentence("P3: when a test fails (here more than one) it answers false and changes nothing",
            DetachEdgeTest::bothOutside);
        check.sentence("P3: otherwise it removes router from A(link): from all to none", DetachEdgeTest::fromAllToNone);
        check.sentence("P3: otherwise it does RESET: the last router of a link", DetachEdgeTest::resetByTheLastRouter);
        check.sentence("P3: otherwise it does RESET: one of two, and one of all",
            DetachEdgeTest::resetByEarlierRouters);
        check.sentence("P3: costs, other attachments, preferences and member flags do not change",
            DetachEdgeTest::nothingElseChanges);
        check.finish();
    }

    private static void linkOutside() {
        for (Edges.Net net : Edges.nets()) {
            Edges.refuses(check, net, "detach", DenseCast::detach, net.noLinks(), net.endRouters());
        }
    }

    private static void routerOutside() {
        for (Edges.Net net : Edges.nets()) {
            Edges.refuses(check, net, "detach", DenseCast::detach, net.endLinks(), net.noRouters());
        }
    }

    private static void notThere() {
        for (Edges.Net net : Edges.nets()) {
            for (int link = 0; link < net.links(); link++) {
                int[] apart = net.apart(link);
                Edges.refuses(check, net, "detach", DenseCast::detach, new int[] {link}, apart);
            }
        }
        DenseCast x = Edges.crowded(2, 1, 0).x();
        check.due("detach(0, 1)", true, x.detach(0, 1));
        check.due("detach(0, 1) again", false, x.detach(0, 1));
        check.due("linkState(0)", 1 + 16, x.linkState(0));
    }

    private static void noneThere() {
        Edges.Net net = new Edges.Net(new DenseCast(12, 16, 3), 12, 16);
        Nets.wire(net.x(), 8, 0, 1, 2, 3);
        net.x().join(2);
        net.x().send(0);
        Edges.refuses(check, net, "detach", DenseCast::detach, net.endLinks(), net.apart(0));
    }

    private static void bothOutside() {
        for (Edges.Net net : Edges.nets()) {
            Edges.refuses(check, net, "detach", DenseCast::detach, net.noLinks(), net.noRouters());
        }
    }

    private static void fromAllToNone() {
        for (int routers : new int[] {2, 12}) {
            DenseCast x = Edges.crowded(routers, 1, 0).x();
            int set = (1 << routers) - 1;
            for (int router = 0; router < routers; router++) {
                set -= 1 << router;
                check.due("detach(0, " + router + ") of " + routers, true, x.detach(0, router));
                check.due("linkState(0)", 1 + 16 * set, x.linkState(0));
                int due = router < routers - 2 ? 1 : -1;
                check.due("distance(last, before last)", due, x.distance(routers - 1, routers - 2));
                check.due("distance(last, " + router + ")", router == routers - 1 ? 0 : -1,
                    x.distance(routers - 1, router));
            }
            check.due("linkState(0) at the end", 1, x.linkState(0));
        }
    }

    /** The link's sole router took part in no route, and the state goes all the same. */
    private static void resetByTheLastRouter() {
        for (int emptied : new int[] {0, 15}) {
            Edges.Net net = Edges.crowded(12, 16, 8);
            net.x().detach(emptied, emptied % 12);
            for (int source = 0; source < 12; source++) {
                net.x().send(source);
            }
            Edges.resets(check, net, "detach(" + emptied + ", sole router)",
                () -> net.x().detach(emptied, (emptied + 1) % 12));
        }
    }

    private static void resetByEarlierRouters() {
        for (int hub : new int[] {0, 8, 15}) {
            for (int link = 0; link < 16; link++) {
                Edges.Net net = Edges.crowded(12, 16, hub, 2, 7);
                int k = link;
                Edges.resets(check, net, "detach(" + k + ", first)", () -> net.x().detach(k, k % 12));
            }
        }
        Edges.Net pair = Edges.crowded(2, 1, 0, 1);
        Edges.resets(check, pair, "detach(0, 1), one of two", () -> pair.x().detach(0, 1));
    }

    private static void nothingElseChanges() {
        Edges.Net net = Edges.crowded(12, 16, 8, 0, 5, 11);
        check.due("settings before", Edges.crowdedSettings(12, 16, 8, 0, 5, 11), View.settings(net.x()));
        for (int link = 0; link < 16; link++) {
            for (int router : net.attached(link)) {
                String before = Edges.settingsBut(net, link, -1);
                int state = net.x().linkState(link);
                check.due("detach(" + link + ", " + router + ")", true, net.x().detach(link, router));
                check.due("settings but of link " + link, before, Edges.settingsBut(net, link, -1));
                check.due("linkState(" + link + ")", state - 16 * (1 << router), net.x().linkState(link));
            }
        }
    }
}
