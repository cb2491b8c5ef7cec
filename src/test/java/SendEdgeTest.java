/** Boundary cases of promise 8, each under the words of the document that name it. */
public final class SendEdgeTest {
    private static final Check check = new Check();

    public static void main(String[] args) {
        check.sentence("P8: refused with answer -1, changing nothing, unless 0 <= source < R", SendEdgeTest::refused);
        check.sentence("P8: the source itself counts when it is a member", SendEdgeTest::sourceCounts);
        check.sentence("P8: the answer is in 0..R: 0", SendEdgeTest::answerAtItsLeast);
        check.sentence("P8: the answer is in 0..R: R", SendEdgeTest::answerAtItsGreatest);
        check.sentence("P8: routers r with m(r) true and rcv(r) >= 1: members that are not reached",
            SendEdgeTest::membersNotReached);
        check.sentence("P8: the packet record is replaced by that of this send", SendEdgeTest::recordReplaced);
        check.sentence("P8: protocol state of every other source does not change", SendEdgeTest::otherSourcesStay);
        check.sentence("P8: F(source,k) for links with two or more transmitters", SendEdgeTest::forwarderFromTwoOn);
        check.sentence("P8: P(source,k) = H for transmitted, unwanted links: H is 1, H is 16",
            SendEdgeTest::holdAtItsEnds);
        check.sentence("P8: P(source,k) = H for transmitted, unwanted links: not for a link that carries nothing",
            SendEdgeTest::silentLinkIsNotPruned);
        check.sentence("P8: P(source,k) = H for transmitted, unwanted links: a running timer is not set anew",
            SendEdgeTest::runningTimerStays);
        check.sentence("P8: costs, attachments, preferences and member flags do not change",
            SendEdgeTest::settingsStay);
        check.sentence("P8: a source with no usable attached link, for it is on no link", SendEdgeTest::onNoLink);
        check.sentence("P8: a source with no usable attached link, for it is alone on its links",
            SendEdgeTest::aloneOnItsLinks);
        check.finish();
    }

    private static void refused() {
        for (Edges.Net net : Edges.nets()) {
            for (int source : net.noRouters()) {
                Edges.refused(check, net, "send(" + source + ")", () -> net.x().send(source));
            }
        }
        Edges.Net empty = new Edges.Net(new DenseCast(2, 1, 1), 2, 1);
        for (int source : empty.noRouters()) {
            Edges.refused(check, empty, "send(" + source + ") before any packet", () -> empty.x().send(source));
        }
    }

    private static void sourceCounts() {
        for (int routers : new int[] {2, 12}) {
            for (int source : new int[] {0, routers - 1}) {
                DenseCast x = Nets.line(routers, 4);
                check.due("send(" + source + ") without members", 0, x.send(source));
                x.join(source);
                check.due("send(" + source + ") of the only member", 1, x.send(source));
                x.tick(64);
                check.due("send(" + source + ") of the only member again", 1, x.send(source));
                int other = routers - 1 - source;
                x.join(other);
                check.due("send(" + source + ") to another member too", 2, x.send(source));
                x.leave(source);
                check.due("send(" + source + ") to another member alone", 1, x.send(source));
            }
        }
    }

    private static void answerAtItsLeast() {
        for (Edges.Net net : Edges.nets()) {
            for (int router = 0; router < net.routers(); router++) {
                net.x().leave(router);
            }
            for (int source = 0; source < net.routers(); source++) {
                check.due(net.name() + "send(" + source + ") without members", 0, net.x().send(source));
            }
        }
    }

    private static void answerAtItsGreatest() {
        for (Edges.Net net : Edges.nets()) {
            for (int router = 0; router < net.routers(); router++) {
                net.x().join(router);
            }
            for (int source = 0; source < net.routers(); source++) {
                String call = net.name() + "send(" + source + ") to all";
                check.due(call, net.routers(), net.x().send(source));
                check.due(call + " again", net.routers(), net.x().send(source));
            }
        }
    }

    private static void membersNotReached() {
        DenseCast x = Nets.line(12, 4);
        for (int router = 0; router < 12; router++) {
            x.join(router);
        }
        x.detach(0, 0);
        check.due("send(0), all others apart", 1, x.send(0));
        check.due("send(11), 0 apart", 11, x.send(11));
        x.leave(0);
        check.due("send(0), itself no member", 0, x.send(0));
        check.due("send(11), 0 apart and no member", 11, x.send(11));
    }

    private static void recordReplaced() {
        DenseCast x = new DenseCast(12, 16, 4);
        for (int link = 0; link < 16; link++) {
            Nets.wire(x, link, 0, 1, 2, 3, 4, 5, 6, 7, 8, 9, 10);
        }
        x.send(3);
        for (int link = 0; link < 16; link++) {
            check.due("carried(" + link + ") of source 3", link == 0 ? 1 : 11, x.carried(link));
        }
        check.due("received(10) of source 3", 1, x.received(10));
        x.send(11);
        for (int router = 0; router < 12; router++) {
            check.due("received(" + router + ") of source 11", router == 11 ? 1 : 0, x.received(router));
        }
        for (int link = 0; link < 16; link++) {
            check.due("carried(" + link + ") of source 11", 0, x.carried(link));
        }
        x.send(3);
        check.due("received(3) of source 3 again", 1, x.received(3));
        check.due("received(11) of source 3 again", 0, x.received(11));
    }

    private static void otherSourcesStay() {
        for (int source : new int[] {0, 1, 6, 11}) {
            Edges.Net net = Edges.crowded(12, 16, 8, 3, 9);
            net.x().tick(16);
            String forwarders = View.forwarders(net.x());
            net.x().send(source);
            check.due("forwarders after send(" + source + ")", forwarders, View.forwarders(net.x()));
            for (int other = 0; other < 12; other++) {
                for (int link = 0; link < 16; link++) {
                    int due = link == 8 || other != source ? 0 : 16;
                    String call = "pruneLeft(" + other + ", " + link + ") after send(" + source + ")";
                    check.due(call, due, net.x().pruneLeft(other, link));
                }
            }
        }
        Edges.Net net = Edges.crowded(12, 16, 8, 3, 9);
        net.x().send(6);
        for (int other = 0; other < 12; other++) {
            for (int link = 0; link < 16; link++) {
                String call = "running pruneLeft(" + other + ", " + link + ") after send(6)";
                check.due(call, link == 8 ? 0 : 5 + other, net.x().pruneLeft(other, link));
            }
        }
        DenseCast x = Nets.diamond(4);
        x.send(0);
        for (int other = 1; other < 6; other++) {
            for (int link = 0; link < 5; link++) {
                check.due("forwarder(" + other + ", " + link + ") after send(0)", -1, x.forwarder(other, link));
            }
        }
    }

    /** As many transmitters as wanted on the last link: source 0 reaches each of them by a link of its own. */
    private static DenseCast transmitters(int count) {
        DenseCast x = new DenseCast(12, 16, 4);
        for (int router = 1; router <= count; router++) {
            Nets.wire(x, router, 0, router);
        }
        for (int router = 1; router <= 11; router++) {
            Nets.wire(x, 15, router);
        }
        x.setCost(15, 15);
        return x;
    }

    private static void forwarderFromTwoOn() {
        for (int count = 1; count <= 11; count++) {
            DenseCast x = transmitters(count);
            x.send(0);
            check.due("carried(15) by " + count, count, x.carried(15));
            check.due("forwarder(0, 15) of " + count, count == 1 ? -1 : count, x.forwarder(0, 15));
            x.tick(64);
            x.send(0);
            check.due("carried(15) by one of " + count, 1, x.carried(15));
            check.due("forwarder(0, 15) of " + count + " later", count == 1 ? -1 : count, x.forwarder(0, 15));
            check.due("forwarder(0, 1), where 0 transmits alone", -1, x.forwarder(0, 1));
        }
        DenseCast none = new DenseCast(2, 1, 1);
        none.send(0);
        check.due("forwarder(0, 0) of no transmitter", -1, none.forwarder(0, 0));
    }

    private static void holdAtItsEnds() {
        for (int hold : new int[] {1, 2, 15, 16}) {
            DenseCast x = Nets.line(3, hold);
            x.join(1);
            check.due("send(0)", 1, x.send(0));
            check.due("pruneLeft(0, 0), wanted", 0, x.pruneLeft(0, 0));
            check.due("pruneLeft(0, 1), unwanted", hold, x.pruneLeft(0, 1));
            x.tick(hold - 1);
            check.due("pruneLeft(0, 1) one tick before the end", 1, x.pruneLeft(0, 1));
            x.send(0);
            check.due("carried(1) one tick before the end", 0, x.carried(1));
            x.tick(1);
            x.send(0);
            check.due("carried(1) at the end", 1, x.carried(1));
            check.due("pruneLeft(0, 1) anew", hold, x.pruneLeft(0, 1));
        }
    }

    /** Link 1 has no router, link 2 one, link 3 two that the packet does not reach. */
    private static void silentLinkIsNotPruned() {
        DenseCast x = new DenseCast(5, 4, 9);
        Nets.wire(x, 0, 0, 1, 2);
        Nets.wire(x, 2, 2);
        Nets.wire(x, 3, 3, 4);
        for (int source = 0; source < 3; source++) {
            x.send(source);
            int[] due = {9, 0, 0, 0};
            for (int link = 0; link < 4; link++) {
                String call = "(" + source + ", " + link + ")";
                check.due("pruneLeft" + call, due[link], x.pruneLeft(source, link));
                check.due("carried(" + link + ") of source " + source, due[link] / 9, x.carried(link));
            }
        }
    }

    private static void runningTimerStays() {
        DenseCast x = Nets.line(2, 16);
        x.send(0);
        for (int left = 15; left >= 1; left--) {
            x.tick(1);
            x.send(0);
            check.due("carried(0) with " + left + " left", 0, x.carried(0));
            check.due("received(1) with " + left + " left", 0, x.received(1));
            check.due("pruneLeft(0, 0) with " + left + " left", left, x.pruneLeft(0, 0));
        }
    }

    private static void settingsStay() {
        for (int hub : new int[] {0, 8, 15}) {
            Edges.Net net = Edges.crowded(12, 16, hub, 0, 5, 11);
            String due = Edges.crowdedSettings(12, 16, hub, 0, 5, 11);
            check.due("settings after a send of each source", due, View.settings(net.x()));
            String routes = View.routes(net.x());
            for (int source = 0; source < 12; source++) {
                net.x().tick(64);
                net.x().send(source);
                String call = "settings and routes after send(" + source + ")";
                check.due(call, due + routes, View.settings(net.x()) + View.routes(net.x()));
            }
        }
    }

    /** The packet of a source with no way out; before it another source has filled the record. */
    private static void staysAtHome(DenseCast x, String where, int source, int other, int routers, int links) {
        for (int member = 0; member < 2; member++) {
            x.send(other);
            check.due(where + "received(" + other + ") before", 1, x.received(other));
            String before = View.prunes(x) + View.forwarders(x);
            check.due(where + "send(" + source + ")", member, x.send(source));
            for (int router = 0; router < routers; router++) {
                check.due(where + "received(" + router + ")", router == source ? 1 : 0, x.received(router));
            }
            for (int link = 0; link < links; link++) {
                check.due(where + "carried(" + link + ")", 0, x.carried(link));
            }
            check.due(where + "timers and forwarders", before, View.prunes(x) + View.forwarders(x));
            x.join(source);
        }
    }

    private static void onNoLink() {
        staysAtHome(new DenseCast(2, 1, 3), "2 routers, no attachment: ", 1, 0, 2, 1);
        staysAtHome(new DenseCast(12, 16, 3), "12 routers, no attachment: ", 11, 0, 12, 16);
        DenseCast x = Nets.line(12, 3);
        x.detach(10, 11);
        x.join(4);
        staysAtHome(x, "the end of a line, cut off: ", 11, 0, 12, 11);
        DenseCast y = Nets.line(12, 3);
        y.detach(5, 5);
        y.detach(4, 5);
        y.join(2);
        staysAtHome(y, "the middle of a line, cut off: ", 5, 0, 12, 11);
    }

    private static void aloneOnItsLinks() {
        DenseCast pair = new DenseCast(2, 1, 3);
        Nets.wire(pair, 0, 0);
        staysAtHome(pair, "alone on the only link: ", 0, 1, 2, 1);
        DenseCast x = new DenseCast(12, 16, 3);
        for (int link = 0; link < 15; link++) {
            Nets.wire(x, link, 6);
        }
        Nets.wire(x, 15, 0, 1, 2, 3, 4, 5, 7, 8, 9, 10, 11);
        x.join(9);
        staysAtHome(x, "alone on fifteen links: ", 6, 0, 12, 16);
    }
}
