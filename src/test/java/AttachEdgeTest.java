/** Boundary cases of promise 2, each under the words of the document that name it. */
public final class AttachEdgeTest {
    private static final Check check = new Check();

    public static void main(String[] args) {
        check.sentence("P2: 0 <= link < L", AttachEdgeTest::linkOutside);
        check.sentence("P2: 0 <= router < R", AttachEdgeTest::routerOutside);
        check.sentence("P2: router is not in A(link)", AttachEdgeTest::thereAlready);
        check.sentence("P2: when a test fails (here more than one) it answers false and changes nothing",
            AttachEdgeTest::bothOutside);
        check.sentence("P2: a refused link gets no router that a route could use", AttachEdgeTest::noHiddenLink);
        check.sentence("P2: otherwise it adds router to A(link): from none to all", AttachEdgeTest::fromNoneToAll);
        check.sentence("P2: otherwise it does RESET: the first router of an empty link",
            AttachEdgeTest::resetByTheFirstRouter);
        check.sentence("P2: otherwise it does RESET: the second and the last router of a link",
            AttachEdgeTest::resetByLaterRouters);
        check.sentence("P2: costs, other attachments, preferences and member flags do not change",
            AttachEdgeTest::nothingElseChanges);
        check.finish();
    }

    private static void linkOutside() {
        for (Edges.Net net : Edges.nets()) {
            Edges.refuses(check, net, "attach", DenseCast::attach, net.noLinks(), net.endRouters());
        }
    }

    private static void routerOutside() {
        for (Edges.Net net : Edges.nets()) {
            Edges.refuses(check, net, "attach", DenseCast::attach, net.endLinks(), net.noRouters());
        }
    }

    private static void thereAlready() {
        for (Edges.Net net : Edges.nets()) {
            for (int link = 0; link < net.links(); link++) {
                int[] there = net.attached(link);
                Edges.refuses(check, net, "attach", DenseCast::attach, new int[] {link}, there);
            }
        }
    }

    private static void bothOutside() {
        for (Edges.Net net : Edges.nets()) {
            Edges.refuses(check, net, "attach", DenseCast::attach, net.noLinks(), net.noRouters());
        }
    }

    private static void noHiddenLink() {
        DenseCast x = new DenseCast(3, 2, 4);
        for (int link : Edges.outside(2)) {
            for (int router = 0; router < 12; router++) {
                check.due("attach(" + link + ", " + router + ")", false, x.attach(link, router));
            }
        }
        for (int source = 0; source < 3; source++) {
            check.due("distance(" + source + ", next)", -1, x.distance(source, (source + 1) % 3));
            check.due("send(" + source + ")", 0, x.send(source));
            check.due("received(next)", 0, x.received((source + 1) % 3));
        }
    }

    private static void fromNoneToAll() {
        for (int routers : new int[] {2, 12}) {
            for (int links : new int[] {1, 16}) {
                DenseCast x = new DenseCast(routers, links, 4);
                int set = 0;
                for (int router = 0; router < routers; router++) {
                    set += 1 << router;
                    check.due("attach(last, " + router + ") of " + routers, true, x.attach(links - 1, router));
                    check.due("linkState(last) of " + links, 1 + 16 * set, x.linkState(links - 1));
                    check.due("attach(last, " + router + ") again", false, x.attach(links - 1, router));
                    check.due("distance(0, " + router + ")", router == 0 ? 0 : 1, x.distance(0, router));
                }
                check.due("detach(last, last)", true, x.detach(links - 1, routers - 1));
                check.due("attach(last, last) anew", true, x.attach(links - 1, routers - 1));
                check.due("linkState(last) at the end", 1 + 16 * set, x.linkState(links - 1));
            }
        }
    }

    /** The link's sole router changes no route, and the state goes all the same. */
    private static void resetByTheFirstRouter() {
        for (int emptied : new int[] {0, 15}) {
            Edges.Net net = Edges.crowded(12, 16, 8);
            net.x().detach(emptied, emptied % 12);
            net.x().detach(emptied, (emptied + 1) % 12);
            for (int source = 0; source < 12; source++) {
                net.x().send(source);
            }
            Edges.resets(check, net, "attach(" + emptied + ", 5)", () -> net.x().attach(emptied, 5));
        }
    }

    private static void resetByLaterRouters() {
        for (int hub : new int[] {0, 8, 15}) {
            for (int link = 0; link < 16; link++) {
                Edges.Net net = Edges.crowded(12, 16, hub, 2, 7);
                int free = (link + 5) % 12;
                int k = link;
                if (link != hub) {
                    Edges.resets(check, net, "attach(" + k + ", " + free + ")", () -> net.x().attach(k, free));
                }
            }
        }
        Edges.Net pair = Edges.crowded(2, 2, 0, 1);
        pair.x().detach(1, 0);
        pair.x().send(0);
        Edges.resets(check, pair, "attach(1, 0), now all are there", () -> pair.x().attach(1, 0));
    }

    private static void nothingElseChanges() {
        Edges.Net net = Edges.crowded(12, 16, 8, 0, 5, 11);
        check.due("settings before", Edges.crowdedSettings(12, 16, 8, 0, 5, 11), View.settings(net.x()));
        for (int link = 0; link < 16; link++) {
            for (int router : net.apart(link)) {
                String before = Edges.settingsBut(net, link, -1);
                int state = net.x().linkState(link);
                check.due("attach(" + link + ", " + router + ")", true, net.x().attach(link, router));
                check.due("settings but of link " + link, before, Edges.settingsBut(net, link, -1));
                check.due("linkState(" + link + ")", state + 16 * (1 << router), net.x().linkState(link));
            }
        }
    }
}
