/** Boundary cases of promises 12 and 13 and of RESET, each under the words of the document that name it. */
public final class ProtocolEdgeTest {
    private static final Check check = new Check();

    public static void main(String[] args) {
        check.sentence("P12: answers -1 unless 0 <= source < R", ProtocolEdgeTest::forwarderOfNoSource);
        check.sentence("P12: answers -1 unless 0 <= link < L", ProtocolEdgeTest::forwarderOfNoLink);
        check.sentence("P12: NONE (-1) when no assert election happened since construction",
            ProtocolEdgeTest::forwarderAtTheStart);
        check.sentence("P12: NONE (-1) when no assert election happened since the last RESET",
            ProtocolEdgeTest::forwarderAfterReset);
        check.sentence("P12: otherwise F(source, link), of the first and the last source, link and router",
            ProtocolEdgeTest::forwarderAtTheEnds);
        check.sentence("P12: it changes nothing", ProtocolEdgeTest::forwarderChangesNothing);
        check.sentence("P13: answers -1 unless 0 <= source < R", ProtocolEdgeTest::pruneLeftOfNoSource);
        check.sentence("P13: answers -1 unless 0 <= link < L", ProtocolEdgeTest::pruneLeftOfNoLink);
        check.sentence("P13: otherwise P(source, link), from 0 to 16", ProtocolEdgeTest::pruneLeftFromEndToEnd);
        check.sentence("P13: it changes nothing", ProtocolEdgeTest::pruneLeftChangesNothing);
        check.sentence("RESET: every P(s,k) = 0, every F(s,k) = NONE, every rcv(r) = 0, every car(k) = 0",
            ProtocolEdgeTest::resetClearsAll);
        check.sentence("RESET: costs, attachments, preferences and member flags stay as they are",
            ProtocolEdgeTest::resetKeepsSettings);
        check.sentence("RESET: the next packet floods as the first one did", ProtocolEdgeTest::floodsAnew);
        check.finish();
    }

    private static void forwarderOfNoSource() {
        for (Edges.Net net : Edges.nets()) {
            Edges.answersNone(check, net, "forwarder", DenseCast::forwarder, net.noRouters(), net.allLinks());
        }
    }

    private static void forwarderOfNoLink() {
        for (Edges.Net net : Edges.nets()) {
            Edges.answersNone(check, net, "forwarder", DenseCast::forwarder, net.allRouters(), net.noLinks());
            Edges.answersNone(check, net, "forwarder", DenseCast::forwarder, net.noRouters(), net.noLinks());
        }
    }

    private static void pruneLeftOfNoSource() {
        for (Edges.Net net : Edges.nets()) {
            Edges.answersNone(check, net, "pruneLeft", DenseCast::pruneLeft, net.noRouters(), net.allLinks());
        }
    }

    private static void pruneLeftOfNoLink() {
        for (Edges.Net net : Edges.nets()) {
            Edges.answersNone(check, net, "pruneLeft", DenseCast::pruneLeft, net.allRouters(), net.noLinks());
            Edges.answersNone(check, net, "pruneLeft", DenseCast::pruneLeft, net.noRouters(), net.noLinks());
        }
    }

    private static void forwarderAtTheStart() {
        DenseCast x = new DenseCast(12, 16, 4);
        Nets.wire(x, 8, 0, 1, 2, 3, 4, 5, 6, 7, 8, 9, 10, 11);
        for (int source = 0; source < 12; source++) {
            x.send(source);
            for (int link = 0; link < 16; link++) {
                check.due("forwarder(" + source + ", " + link + ")", -1, x.forwarder(source, link));
            }
        }
    }

    /** Router 0 may win an election, so NONE must differ from it. */
    private static void forwarderAfterReset() {
        DenseCast x = new DenseCast(2, 2, 4);
        Nets.wire(x, 0, 0, 1);
        Nets.wire(x, 1, 0, 1);
        for (int round = 0; round < 3; round++) {
            check.due("forwarder(0, 1) before an election", -1, x.forwarder(0, 1));
            x.send(0);
            check.due("forwarder(0, 1), 0 is nearer", 0, x.forwarder(0, 1));
            check.due("forwarder(1, 1), no packet of 1", -1, x.forwarder(1, 1));
            x.tick(64);
            x.join(1);
            x.leave(1);
            x.send(1);
            check.due("forwarder(0, 1) later", 0, x.forwarder(0, 1));
            check.due("forwarder(1, 1), 1 is nearer", 1, x.forwarder(1, 1));
            x.setCost(0, 1);
            check.due("forwarder(1, 1) after RESET", -1, x.forwarder(1, 1));
        }
    }

    /** In the crowded net the lower of two routers has the lower preference and wins. */
    private static void forwarderAtTheEnds() {
        for (int hub : new int[] {0, 7, 15}) {
            Edges.Net net = Edges.crowded(12, 16, hub, 4);
            for (int source = 0; source < 12; source++) {
                for (int link = 0; link < 16; link++) {
                    int lower = link % 12 == 11 ? 0 : link % 12;
                    String call = "forwarder(" + source + ", " + link + ") beside hub " + hub;
                    check.due(call, link == hub ? -1 : lower, net.x().forwarder(source, link));
                }
            }
        }
        DenseCast x = new DenseCast(12, 2, 4);
        Nets.wire(x, 0, 0, 11);
        Nets.wire(x, 1, 0, 11);
        x.send(11);
        check.due("forwarder(11, 1), the last router", 11, x.forwarder(11, 1));
    }

    private static void forwarderChangesNothing() {
        Edges.changesNothing(check, "forwarder", DenseCast::forwarder);
    }

    private static void pruneLeftFromEndToEnd() {
        for (int hold = 1; hold <= 16; hold++) {
            DenseCast x = Nets.line(12, hold);
            check.due("pruneLeft(11, 10) before", 0, x.pruneLeft(11, 10));
            x.send(11);
            check.due("pruneLeft(11, 10) of " + hold, hold, x.pruneLeft(11, 10));
            check.due("pruneLeft(11, 0) of " + hold, hold, x.pruneLeft(11, 0));
            check.due("pruneLeft(0, 10), no packet of 0", 0, x.pruneLeft(0, 10));
            x.tick(hold);
            check.due("pruneLeft(11, 10) at the end of " + hold, 0, x.pruneLeft(11, 10));
        }
    }

    private static void pruneLeftChangesNothing() {
        Edges.changesNothing(check, "pruneLeft", DenseCast::pruneLeft);
    }

    /** Each of the four calls that do RESET; every timer and forwarder is set before, that of the hub apart. */
    private static void resetClearsAll() {
        for (int hub : new int[] {0, 15}) {
            for (int kind = 0; kind < 4; kind++) {
                Edges.Net net = Edges.crowded(12, 16, hub);
                net.x().send(11);
                check.due("pruneLeft(0, 0) before", 5, net.x().pruneLeft(0, 0));
                check.due("received(11) before", 1, net.x().received(11));
                reset(net.x(), kind);
                for (int source = 0; source < 12; source++) {
                    check.due("received(" + source + ") after " + kind, 0, net.x().received(source));
                    for (int link = 0; link < 16; link++) {
                        String pair = "(" + source + ", " + link + ") after " + kind;
                        check.due("pruneLeft" + pair, 0, net.x().pruneLeft(source, link));
                        check.due("forwarder" + pair, -1, net.x().forwarder(source, link));
                        check.due("carried(" + link + ") after " + kind, 0, net.x().carried(link));
                    }
                }
            }
        }
    }

    /** Link 3 of the crowded net joins routers 3 and 4; that of the hub is not among those changed. */
    private static void reset(DenseCast x, int kind) {
        boolean isDone = kind == 0 ? x.attach(3, 9)
            : kind == 1 ? x.detach(3, 4)
            : kind == 2 ? x.setCost(3, 5)
            : x.setPreference(3, 65);
        check.due("call " + kind, true, isDone);
    }

    private static void resetKeepsSettings() {
        for (int kind = 0; kind < 4; kind++) {
            Edges.Net net = Edges.crowded(12, 16, 8, 0, 3, 7, 11);
            check.due("settings before", Edges.crowdedSettings(12, 16, 8, 0, 3, 7, 11), View.settings(net.x()));
            int link = net.x().linkState(3);
            String others = Edges.settingsBut(net, 3, -1);
            reset(net.x(), kind);
            int due = kind == 0 ? link + 16 * (1 << 9) : kind == 1 ? link - 16 * (1 << 4) : link;
            check.due("linkState(3) after " + kind, due, net.x().linkState(3));
            check.due("settings of the others after " + kind, others, Edges.settingsBut(net, 3, -1));
        }
    }

    private static void floodsAnew() {
        DenseCast x = Nets.diamond(6);
        x.join(4);
        x.send(0);
        String first = Edges.protocol(x);
        x.send(0);
        check.due("the second packet has its own state", false, first.equals(Edges.protocol(x)));
        x.setPreference(0, 0);
        x.send(0);
        check.due("state after RESET and a packet", first, Edges.protocol(x));
    }
}
