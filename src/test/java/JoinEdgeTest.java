/** Boundary cases of promise 6 and of GRAFT, each under the words of the document that name it. */
public final class JoinEdgeTest {
    private static final Check check = new Check();

    public static void main(String[] args) {
        check.sentence("P6: 0 <= router < R", JoinEdgeTest::routerOutside);
        check.sentence("P6: m(router) is false", JoinEdgeTest::memberAlready);
        check.sentence("P6: otherwise m(router) = true: the first and the last router, one and all",
            JoinEdgeTest::firstAndLast);
        check.sentence("P6: nothing else changes: only the prune timers GRAFT sets to 0 are touched; no RESET happens",
            JoinEdgeTest::onlyTimersOnThePath);
        check.sentence("P6: nothing else changes, with no timer running", JoinEdgeTest::noTimerRuns);
        check.sentence("GRAFT: for each source s = 0, 1, ..., R-1", JoinEdgeTest::everySource);
        check.sentence("GRAFT: stop if x == s", JoinEdgeTest::stopsAtTheSource);
        check.sentence("GRAFT: stop if x is unreachable from s", JoinEdgeTest::stopsWhereUnreachable);
        check.sentence("GRAFT: repeat at most R times: the longest way is grafted whole", JoinEdgeTest::longestWay);
        check.sentence("GRAFT: the longest way by way of assert winners", JoinEdgeTest::longestWayOverWinners);
        check.sentence("GRAFT: x = F(s,k) when that is not NONE, router 0 too", JoinEdgeTest::overTheWinner);
        check.sentence("GRAFT: else the highest-numbered q, as far as it shows", JoinEdgeTest::overTheOnlyUpstream);
        check.finish();
    }

    private static void routerOutside() {
        for (Edges.Net net : Edges.nets()) {
            for (int router : net.noRouters()) {
                Edges.refused(check, net, "join(" + router + ")", () -> net.x().join(router));
            }
        }
    }

    private static void memberAlready() {
        for (Edges.Net net : Edges.nets()) {
            for (int router = 0; router < net.routers(); router++) {
                int r = router;
                net.x().join(r);
                Edges.refused(check, net, "join(" + r + ") of a member", () -> net.x().join(r));
            }
            for (int source = 0; source < net.routers(); source++) {
                net.x().send(source);
            }
            for (int router = 0; router < net.routers(); router++) {
                int r = router;
                Edges.refused(check, net, "join(" + r + ") of a member", () -> net.x().join(r));
            }
        }
    }

    private static void firstAndLast() {
        for (int routers : new int[] {2, 12}) {
            DenseCast x = new DenseCast(routers, 1, 1);
            for (int router = routers - 1; router >= 0; router--) {
                check.due("routerState(" + router + ") before", 0, x.routerState(router));
                check.due("join(" + router + ") of " + routers, true, x.join(router));
                check.due("routerState(" + router + ")", 256, x.routerState(router));
                check.due("send(last)", 1, x.send(routers - 1));
            }
            check.due("leave(0)", true, x.leave(0));
            check.due("join(0) after leave(0)", true, x.join(0));
        }
    }

    /** In the crowded net the hub alone is on a path, and each source has timers on all links. */
    private static void onlyTimersOnThePath() {
        for (int hub : new int[] {0, 8, 15}) {
            for (int router : new int[] {0, 6, 11}) {
                Edges.Net net = Edges.crowded(12, 16, hub);
                check.due("settings before", Edges.crowdedSettings(12, 16, hub), View.settings(net.x()));
                String rest = View.routes(net.x()) + View.forwarders(net.x()) + View.record(net.x());
                String settings = Edges.settingsBut(net, -1, router);
                int preference = net.x().routerState(router);
                check.due("join(" + router + ")", true, net.x().join(router));
                check.due("routes, forwarders and record", rest,
                    View.routes(net.x()) + View.forwarders(net.x()) + View.record(net.x()));
                check.due("settings of the others", settings, Edges.settingsBut(net, -1, router));
                check.due("routerState(" + router + ")", preference + 256, net.x().routerState(router));
                for (int source = 0; source < 12; source++) {
                    for (int link = 0; link < 16; link++) {
                        int due = link == hub && source != router ? 0 : 5 + source;
                        String call = "pruneLeft(" + source + ", " + link + ") after join(" + router + ")";
                        check.due(call, due, net.x().pruneLeft(source, link));
                    }
                }
            }
        }
    }

    private static void noTimerRuns() {
        Edges.Net net = Edges.crowded(12, 16, 8);
        net.x().tick(64);
        String before = View.routes(net.x()) + Edges.protocol(net.x());
        for (int router = 0; router < 12; router++) {
            check.due("join(" + router + ")", true, net.x().join(router));
            check.due("state after join(" + router + ")", before, View.routes(net.x()) + Edges.protocol(net.x()));
        }
    }

    private static void everySource() {
        for (int joined : new int[] {0, 1, 5, 11}) {
            DenseCast x = prunedLine(12);
            x.join(joined);
            for (int source = 0; source < 12; source++) {
                for (int link = 0; link < 11; link++) {
                    boolean isBetween = link >= Math.min(source, joined) && link < Math.max(source, joined);
                    String call = "pruneLeft(" + source + ", " + link + ") after join(" + joined + ")";
                    check.due(call, isBetween ? 0 : 16, x.pruneLeft(source, link));
                }
            }
        }
        DenseCast pair = prunedLine(2);
        pair.join(0);
        check.due("pruneLeft(1, 0) of 2 routers", 0, pair.pruneLeft(1, 0));
        check.due("pruneLeft(0, 0) of 2 routers", 16, pair.pruneLeft(0, 0));
    }

    /** A line on which every source has sent, and nobody wants a packet. */
    private static DenseCast prunedLine(int routers) {
        DenseCast x = Nets.line(routers, 16);
        for (int source = 0; source < routers; source++) {
            x.send(source);
        }
        return x;
    }

    private static void stopsAtTheSource() {
        for (int source : new int[] {0, 6, 11}) {
            DenseCast x = Nets.line(12, 7);
            x.send(source);
            String before = View.prunes(x);
            check.due("join(" + source + ") of the source", true, x.join(source));
            check.due("timers of source " + source, before, View.prunes(x));
        }
    }

    private static void stopsWhereUnreachable() {
        DenseCast x = new DenseCast(6, 4, 7);
        Nets.wire(x, 0, 0, 1);
        Nets.wire(x, 1, 2, 3);
        Nets.wire(x, 2, 4);
        for (int source = 0; source < 6; source++) {
            x.send(source);
        }
        String before = View.prunes(x);
        check.due("join(4), alone on its link", true, x.join(4));
        check.due("join(5), on no link", true, x.join(5));
        check.due("timers after both", before, View.prunes(x));
        check.due("join(3), reached by 2 alone", true, x.join(3));
        check.due("pruneLeft(2, 1)", 0, x.pruneLeft(2, 1));
        check.due("pruneLeft(3, 1)", 7, x.pruneLeft(3, 1));
        check.due("pruneLeft(0, 0)", 7, x.pruneLeft(0, 0));
        check.due("pruneLeft(1, 0)", 7, x.pruneLeft(1, 0));
    }

    private static void longestWay() {
        for (int[] way : new int[][] {{0, 11}, {11, 0}}) {
            DenseCast x = Nets.line(12, 16);
            x.send(way[0]);
            x.join(way[1]);
            for (int link = 0; link < 11; link++) {
                check.due("pruneLeft(" + way[0] + ", " + link + ")", 0, x.pruneLeft(way[0], link));
            }
            check.due("send(" + way[0] + ")", 1, x.send(way[0]));
            check.due("received(" + way[1] + ")", 1, x.received(way[1]));
        }
    }

    /**
     * Five LANs in a row, each with two routers before it and two behind it: pairs 1-2, 3-4, 5-6, 7-8, 9-10 and
     * then 11; the lower router of a pair wins by its preference, so the graft visits 9, 7, 5, 3, 1.
     */
    private static void longestWayOverWinners() {
        DenseCast x = new DenseCast(12, 6, 16);
        Nets.wire(x, 0, 0, 1, 2);
        for (int lan = 1; lan < 5; lan++) {
            Nets.wire(x, lan, 2 * lan - 1, 2 * lan, 2 * lan + 1, 2 * lan + 2);
        }
        Nets.wire(x, 5, 9, 10, 11);
        for (int even = 2; even < 12; even += 2) {
            x.setPreference(even, 9);
        }
        x.send(0);
        x.join(11);
        for (int link = 0; link < 6; link++) {
            check.due("forwarder(0, " + link + ")", link == 0 ? -1 : 2 * link - 1, x.forwarder(0, link));
            check.due("pruneLeft(0, " + link + ")", 0, x.pruneLeft(0, link));
        }
        check.due("send(0)", 1, x.send(0));
        check.due("received(11)", 1, x.received(11));
    }

    /** Source 2 reaches the LAN of 0, 1 and 3 (link 2) by way of 0 (link 0) or of 1 (link 1); 3 joins. */
    private static void overTheWinner() {
        for (int winner = 0; winner < 2; winner++) {
            DenseCast x = new DenseCast(4, 3, 5);
            Nets.wire(x, 0, 2, 0);
            Nets.wire(x, 1, 2, 1);
            Nets.wire(x, 2, 0, 1, 3);
            x.setPreference(1 - winner, 1);
            x.send(2);
            check.due("forwarder(2, 2)", winner, x.forwarder(2, 2));
            x.join(3);
            check.due("pruneLeft(2, 0), winner " + winner, winner == 0 ? 0 : 5, x.pruneLeft(2, 0));
            check.due("pruneLeft(2, 1), winner " + winner, winner == 1 ? 0 : 5, x.pruneLeft(2, 1));
            check.due("pruneLeft(2, 2), winner " + winner, 0, x.pruneLeft(2, 2));
        }
        dearWinner();
    }

    /** Router 1 wins by its preference, though by way of 2 router 3 is nearer to source 0. */
    private static void dearWinner() {
        DenseCast x = Nets.diamond(5);
        x.setCost(0, 3);
        x.setCost(2, 4);
        x.setPreference(2, 1);
        x.send(0);
        check.due("distance(0, 3)", 5, x.distance(0, 3));
        check.due("forwarder(0, 2)", 1, x.forwarder(0, 2));
        x.join(3);
        int[] due = {0, 5, 0, 5, 5};
        for (int link = 0; link < 5; link++) {
            check.due("pruneLeft(0, " + link + ")", due[link], x.pruneLeft(0, link));
        }
    }

    /**
     * With several q the first packet after a RESET makes them hold an election, so without a winner either q is
     * the only one, or no timer of the source is running and the choice changes nothing.
     */
    private static void overTheOnlyUpstream() {
        DenseCast x = new DenseCast(5, 3, 5);
        Nets.wire(x, 0, 0, 1);
        Nets.wire(x, 1, 1, 2, 3, 4);
        Nets.wire(x, 2, 0, 4);
        x.setCost(2, 9);
        x.send(0);
        check.due("forwarder(0, 1)", -1, x.forwarder(0, 1));
        x.join(3);
        check.due("pruneLeft(0, 0)", 0, x.pruneLeft(0, 0));
        check.due("pruneLeft(0, 1)", 0, x.pruneLeft(0, 1));
        check.due("pruneLeft(0, 2)", 5, x.pruneLeft(0, 2));
        DenseCast several = Nets.diamond(5);
        several.join(3);
        check.due("state where 1 or 2 is upstream", Edges.protocol(Nets.diamond(5)), Edges.protocol(several));
    }
}
