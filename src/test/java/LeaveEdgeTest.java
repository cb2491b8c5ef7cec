/** Boundary cases of promise 7, each under the words of the document that name it. */
public final class LeaveEdgeTest {
    private static final Check check = new Check();

    public static void main(String[] args) {
        check.sentence("P7: 0 <= router < R", LeaveEdgeTest::routerOutside);
        check.sentence("P7: m(router) is true", LeaveEdgeTest::noMember);
        check.sentence("P7: otherwise m(router) = false: the first and the last router, the only member and one of all",
            LeaveEdgeTest::firstAndLast);
        check.sentence("P7: nothing else changes", LeaveEdgeTest::nothingElseChanges);
        check.sentence("P7: prunes follow at the next send", LeaveEdgeTest::prunesFollow);
        check.finish();
    }

    private static void routerOutside() {
        for (Edges.Net net : Edges.nets()) {
            for (int router : net.noRouters()) {
                Edges.refused(check, net, "leave(" + router + ")", () -> net.x().leave(router));
            }
        }
    }

    private static void noMember() {
        for (Edges.Net net : Edges.nets()) {
            for (int router = 0; router < net.routers(); router++) {
                int r = router;
                net.x().leave(r);
                Edges.refused(check, net, "leave(" + r + ") of no member", () -> net.x().leave(r));
            }
        }
    }

    private static void firstAndLast() {
        for (int routers : new int[] {2, 12}) {
            DenseCast x = new DenseCast(routers, 1, 1);
            for (int router : new int[] {0, routers - 1}) {
                x.join(router);
                check.due("leave(" + router + ") of the only member", true, x.leave(router));
                check.due("routerState(" + router + ")", 0, x.routerState(router));
            }
            for (int router = 0; router < routers; router++) {
                x.join(router);
            }
            for (int router : new int[] {0, routers - 1}) {
                check.due("leave(" + router + ") where all were members", true, x.leave(router));
                check.due("routerState(" + router + ")", 0, x.routerState(router));
                check.due("send(" + router + ")", 0, x.send(router));
            }
        }
    }

    private static void nothingElseChanges() {
        for (int hub : new int[] {0, 8, 15}) {
            int[] all = {0, 1, 2, 3, 4, 5, 6, 7, 8, 9, 10, 11};
            Edges.Net net = Edges.crowded(12, 16, hub, all);
            check.due("settings before", Edges.crowdedSettings(12, 16, hub, all), View.settings(net.x()));
            String before = View.routes(net.x()) + Edges.protocol(net.x());
            for (int router = 0; router < 12; router++) {
                String others = Edges.settingsBut(net, -1, router);
                int state = net.x().routerState(router);
                check.due("leave(" + router + ")", true, net.x().leave(router));
                check.due("routerState(" + router + ")", state - 256, net.x().routerState(router));
                check.due("settings of the others", others, Edges.settingsBut(net, -1, router));
                check.due("state after leave", before, View.routes(net.x()) + Edges.protocol(net.x()));
            }
        }
    }

    private static void prunesFollow() {
        DenseCast x = Nets.line(12, 16);
        x.join(11);
        x.send(0);
        x.leave(11);
        x.tick(1);
        for (int link = 0; link < 11; link++) {
            check.due("pruneLeft(0, " + link + ") before the send", 0, x.pruneLeft(0, link));
        }
        check.due("send(0)", 0, x.send(0));
        for (int link = 0; link < 11; link++) {
            check.due("carried(" + link + ") of the send", 1, x.carried(link));
            check.due("pruneLeft(0, " + link + ") after the send", 16, x.pruneLeft(0, link));
        }
    }
}
