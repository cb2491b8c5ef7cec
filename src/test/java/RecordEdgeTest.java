import java.util.function.IntUnaryOperator;

/** Boundary cases of promises 14 and 15, each under the words of the document that name it. */
public final class RecordEdgeTest {
    private static final Check check = new Check();

    public static void main(String[] args) {
        check.sentence("P14: received(router) answers -1 unless 0 <= router < R", RecordEdgeTest::receivedOfNone);
        check.sentence("P14: received: 1 for the source of that packet", RecordEdgeTest::receivedBySource);
        check.sentence("P14: received: 0 before any send", RecordEdgeTest::receivedBeforeAnySend);
        check.sentence("P14: received: 0 after a RESET", RecordEdgeTest::receivedAfterReset);
        check.sentence("P14: received: the copies that router accepted, at the most", RecordEdgeTest::mostCopies);
        check.sentence("P14: carried(link) answers -1 unless 0 <= link < L", RecordEdgeTest::carriedOfNone);
        check.sentence("P14: carried: how many times, none to all of the routers", RecordEdgeTest::mostTransmissions);
        check.sentence("P14: carried: 0 before any send", RecordEdgeTest::carriedBeforeAnySend);
        check.sentence("P14: carried: 0 after a RESET", RecordEdgeTest::carriedAfterReset);
        check.sentence("P14: neither changes anything", RecordEdgeTest::recordChangesNothing);
        check.sentence("P15: linkState(link) answers -1 unless 0 <= link < L", RecordEdgeTest::linkStateOfNone);
        check.sentence("P15: c(link) + COST_SPAN * M, M of no, one, two and all routers", RecordEdgeTest::linkStates);
        check.sentence("P15: routerState(router) answers -1 unless 0 <= router < R", RecordEdgeTest::routerStateOfNone);
        check.sentence("P15: p(router), plus MEMBER_FLAG (256) when m(router) is true", RecordEdgeTest::routerStates);
        check.sentence("P15: neither changes anything", RecordEdgeTest::statesChangeNothing);
        check.finish();
    }

    private static void none(Edges.Net net, String name, IntUnaryOperator look, int[] numbers) {
        for (int number : numbers) {
            check.due(net.name() + name + "(" + number + ")", -1, look.applyAsInt(number));
        }
    }

    private static void receivedOfNone() {
        for (Edges.Net net : Edges.nets()) {
            net.x().tick(64);
            net.x().send(0);
            none(net, "received", net.x()::received, net.noRouters());
        }
    }

    private static void carriedOfNone() {
        for (Edges.Net net : Edges.nets()) {
            net.x().tick(64);
            net.x().send(0);
            none(net, "carried", net.x()::carried, net.noLinks());
        }
    }

    private static void linkStateOfNone() {
        for (Edges.Net net : Edges.nets()) {
            none(net, "linkState", net.x()::linkState, net.noLinks());
        }
    }

    private static void routerStateOfNone() {
        for (Edges.Net net : Edges.nets()) {
            none(net, "routerState", net.x()::routerState, net.noRouters());
        }
    }

    private static void receivedBySource() {
        for (Edges.Net net : Edges.nets()) {
            for (int source = 0; source < net.routers(); source++) {
                net.x().send(source);
                check.due(net.name() + "received(" + source + ")", 1, net.x().received(source));
                net.x().tick(64);
                net.x().send(source);
                check.due(net.name() + "received(" + source + ") after the hold", 1, net.x().received(source));
            }
        }
    }

    /** Calls that send nothing and do no RESET, on new objects of which one was changed before. */
    private static DenseCast[] withoutPacket(int routers) {
        DenseCast[] both = {new DenseCast(routers, routers - 1, 4), Nets.line(routers, 4)};
        for (DenseCast x : both) {
            x.join(0);
            x.tick(5);
            x.send(-1);
            x.send(routers);
            x.attach(-1, 0);
        }
        return both;
    }

    private static void receivedBeforeAnySend() {
        for (int routers : new int[] {2, 12}) {
            for (DenseCast x : withoutPacket(routers)) {
                for (int router = 0; router < routers; router++) {
                    check.due("received(" + router + ") of " + routers, 0, x.received(router));
                }
            }
        }
    }

    private static void carriedBeforeAnySend() {
        for (int routers : new int[] {2, 12}) {
            for (DenseCast x : withoutPacket(routers)) {
                for (int link = 0; link < routers - 1; link++) {
                    check.due("carried(" + link + ") of " + routers, 0, x.carried(link));
                }
            }
        }
    }

    /** Every call that does RESET, here such that it leaves all as it was, or nearly. */
    private static void reset(DenseCast x, int kind) {
        boolean isDone = kind == 0 ? x.attach(0, 5)
            : kind == 1 ? x.detach(0, 1)
            : kind == 2 ? x.setCost(0, 1)
            : x.setPreference(0, 0);
        check.due("call " + kind, true, isDone);
    }

    private static void receivedAfterReset() {
        for (int kind = 0; kind < 4; kind++) {
            DenseCast x = Nets.diamond(3);
            x.send(0);
            check.due("received(3) before", 2, x.received(3));
            reset(x, kind);
            for (int router = 0; router < 6; router++) {
                check.due("received(" + router + ") after call " + kind, 0, x.received(router));
            }
        }
    }

    private static void carriedAfterReset() {
        for (int kind = 0; kind < 4; kind++) {
            DenseCast x = Nets.diamond(3);
            x.send(0);
            check.due("carried(2) before", 2, x.carried(2));
            reset(x, kind);
            for (int link = 0; link < 5; link++) {
                check.due("carried(" + link + ") after call " + kind, 0, x.carried(link));
            }
        }
    }

    /** Routers 1 to 10 bring a copy each from source 0 to router 11. */
    private static void mostCopies() {
        DenseCast x = new DenseCast(12, 2, 4);
        Nets.wire(x, 0, 0, 1, 2, 3, 4, 5, 6, 7, 8, 9, 10);
        Nets.wire(x, 1, 1, 2, 3, 4, 5, 6, 7, 8, 9, 10, 11);
        x.send(0);
        for (int router = 0; router < 12; router++) {
            check.due("received(" + router + ")", router == 11 ? 10 : 1, x.received(router));
        }
        x.send(0);
        check.due("received(11), all pruned", 0, x.received(11));
    }

    private static void mostTransmissions() {
        for (int count = 0; count <= 12; count++) {
            DenseCast x = new DenseCast(12, 16, 4);
            Nets.wire(x, 3, 0, 1, 2, 3, 4, 5, 6, 7, 8, 9, 10, 11);
            x.setCost(15, 2);
            for (int router = 0; router < count; router++) {
                Nets.wire(x, 15, router);
            }
            x.send(6);
            check.due("carried(3)", 1, x.carried(3));
            check.due("carried(15) with " + count + " attached", count < 2 ? 0 : count, x.carried(15));
            check.due("carried(0), no router there", 0, x.carried(0));
        }
    }

    private static void recordChangesNothing() {
        Edges.changesNothing(check, "received", (x, first, second) -> x.received(first));
        Edges.changesNothing(check, "carried", (x, first, second) -> x.carried(first));
    }

    private static void statesChangeNothing() {
        Edges.changesNothing(check, "linkState", (x, first, second) -> x.linkState(first));
        Edges.changesNothing(check, "routerState", (x, first, second) -> x.routerState(first));
    }

    private static void linkStates() {
        for (int links : new int[] {1, 16}) {
            for (int cost : new int[] {1, 15}) {
                DenseCast x = new DenseCast(12, links, 4);
                int link = links - 1;
                x.setCost(link, cost);
                check.due("linkState of no router", cost, x.linkState(link));
                Nets.wire(x, link, 11);
                check.due("linkState of router 11", cost + 16 * 2048, x.linkState(link));
                Nets.wire(x, link, 0);
                check.due("linkState of routers 11 and 0", cost + 16 * 2049, x.linkState(link));
                Nets.wire(x, link, 1, 2, 3, 4, 5, 6, 7, 8, 9, 10);
                check.due("linkState of all", cost + 16 * 4095, x.linkState(link));
                x.detach(link, 11);
                check.due("linkState of all but 11", cost + 16 * 2047, x.linkState(link));
            }
        }
        DenseCast pair = new DenseCast(2, 1, 4);
        Nets.wire(pair, 0, 1);
        check.due("linkState(0) of router 1", 33, pair.linkState(0));
        Nets.wire(pair, 0, 0);
        check.due("linkState(0) of both", 49, pair.linkState(0));
    }

    private static void routerStates() {
        for (int routers : new int[] {2, 12}) {
            for (int router : new int[] {0, routers - 1}) {
                DenseCast x = new DenseCast(routers, 1, 4);
                for (int preference : new int[] {0, 1, 254, 255}) {
                    x.setPreference(router, preference);
                    check.due("routerState(" + router + ")", preference, x.routerState(router));
                    x.join(router);
                    check.due("routerState(" + router + ") of a member", preference + 256, x.routerState(router));
                    x.leave(router);
                    check.due("routerState(" + router + ") after leave", preference, x.routerState(router));
                }
            }
        }
    }
}
