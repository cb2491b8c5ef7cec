/** The smallest and the largest networks, and links with no, one, two and all routers. */
public final class SizeEdgeTest {
    private static final Check check = new Check();

    public static void main(String[] args) {
        check.sentence("Numbers: R is 2..12, L is 1..16: a whole run of 2 routers and 1 link", SizeEdgeTest::smallest);
        check.sentence("Numbers: R is 2..12, L is 1..16: a whole run of 2 routers and 16 links",
            () -> parallel(2, 16));
        check.sentence("Numbers: R is 2..12, L is 1..16: a whole run of 12 routers and 1 link",
            () -> parallel(12, 1));
        check.sentence("Numbers: R is 2..12, L is 1..16: a whole run of 12 routers and 16 links",
            () -> parallel(12, 16));
        check.sentence("Topology: a link is USABLE when |A(k)| >= 2: no router", () -> attached(0));
        check.sentence("Topology: a link is USABLE when |A(k)| >= 2: one router", () -> attached(1));
        check.sentence("Topology: a link is USABLE when |A(k)| >= 2: two routers", () -> attached(2));
        check.sentence("Topology: a link is USABLE when |A(k)| >= 2: three routers", () -> attached(3));
        check.sentence("Topology: a link is USABLE when |A(k)| >= 2: all routers", () -> attached(12));
        check.finish();
    }

    private static void smallest() {
        DenseCast x = new DenseCast(2, 1, 1);
        check.due("send(0), no link", 0, x.send(0));
        check.due("attach(0, 0)", true, x.attach(0, 0));
        check.due("distance(0, 1), 0 alone", -1, x.distance(0, 1));
        check.due("attach(0, 1)", true, x.attach(0, 1));
        check.due("distance(0, 1)", 1, x.distance(0, 1));
        check.due("rpfLink(1, 0)", 0, x.rpfLink(1, 0));
        check.due("join(1)", true, x.join(1));
        check.due("send(0)", 1, x.send(0));
        check.due("received(1)", 1, x.received(1));
        check.due("pruneLeft(0, 0)", 0, x.pruneLeft(0, 0));
        check.due("leave(1)", true, x.leave(1));
        check.due("send(0)", 0, x.send(0));
        check.due("pruneLeft(0, 0)", 1, x.pruneLeft(0, 0));
        check.due("send(0) while pruned", 0, x.send(0));
        check.due("carried(0) while pruned", 0, x.carried(0));
        x.tick(1);
        check.due("pruneLeft(0, 0) after a tick", 0, x.pruneLeft(0, 0));
        check.due("forwarder(0, 0)", -1, x.forwarder(0, 0));
        check.due("detach(0, 0)", true, x.detach(0, 0));
        check.due("distance(1, 0)", -1, x.distance(1, 0));
        check.due("linkState(0)", 33, x.linkState(0));
    }

    /** Every router stands on every link, all of cost 1: link 0 is the way, on the others all transmit. */
    private static void parallel(int routers, int links) {
        DenseCast x = new DenseCast(routers, links, 16);
        for (int link = 0; link < links; link++) {
            for (int router = 0; router < routers; router++) {
                check.due("attach(" + link + ", " + router + ")", true, x.attach(link, router));
            }
        }
        for (int source = 0; source < routers; source++) {
            check.due("send(" + source + ")", 0, x.send(source));
            for (int link = 0; link < links; link++) {
                String pair = "(" + source + ", " + link + ")";
                check.due("carried(" + link + ") of source " + source, link == 0 ? 1 : routers, x.carried(link));
                check.due("forwarder" + pair, link == 0 ? -1 : source, x.forwarder(source, link));
                check.due("pruneLeft" + pair, 16, x.pruneLeft(source, link));
            }
            for (int router = 0; router < routers; router++) {
                String pair = "(" + source + ", " + router + ")";
                check.due("received(" + router + ") of source " + source, 1, x.received(router));
                check.due("distance" + pair, source == router ? 0 : 1, x.distance(source, router));
                check.due("rpfLink" + pair, source == router ? -1 : 0, x.rpfLink(source, router));
            }
        }
        check.due("join(last)", true, x.join(routers - 1));
        for (int source = 0; source < routers; source++) {
            check.due("pruneLeft(" + source + ", 0)", source == routers - 1 ? 16 : 0, x.pruneLeft(source, 0));
            check.due("send(" + source + ") to the last", 1, x.send(source));
            check.due("carried(0)", source == routers - 1 ? 0 : 1, x.carried(0));
        }
    }

    /** Link 7 with routers 0 to count - 1, beside a dearer link 9 of all routers. */
    private static void attached(int count) {
        DenseCast x = new DenseCast(12, 16, 5);
        for (int router = 0; router < 12; router++) {
            Nets.wire(x, 9, router);
        }
        x.setCost(9, 4);
        for (int router = 0; router < count; router++) {
            Nets.wire(x, 7, router);
        }
        for (int router = 1; router < 12; router++) {
            boolean isNear = count >= 2 && router < count;
            check.due("distance(0, " + router + ")", isNear ? 1 : 4, x.distance(0, router));
            check.due("rpfLink(0, " + router + ")", isNear ? 7 : 9, x.rpfLink(0, router));
            x.join(router);
        }
        check.due("send(0)", 11, x.send(0));
        check.due("carried(7)", count >= 2 ? 1 : 0, x.carried(7));
        // The near ones transmit on link 9 as well, for those who are not on link 7.
        check.due("carried(9)", count >= 2 ? count : 1, x.carried(9));
        check.due("forwarder(0, 9)", count >= 2 ? 0 : -1, x.forwarder(0, 9));
        check.due("received(11)", count == 12 || count < 2 ? 1 : count, x.received(11));
        check.due("pruneLeft(0, 7)", 0, x.pruneLeft(0, 7));
        check.due("pruneLeft(0, 9)", count == 12 ? 5 : 0, x.pruneLeft(0, 9));
        check.due("send(0) again", 11, x.send(0));
        check.due("received(11) again", 1, x.received(11));
    }
}
