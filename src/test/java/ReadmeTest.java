/** What README.md tells a reader: its example, its constructor and what a refused call answers. */
public final class ReadmeTest {
    private static final Check check = new Check();

    public static void main(String[] args) {
        check.sentence("README: the example", ReadmeTest::example);
        check.sentence("README: a number out of range is taken as the nearest one in range", ReadmeTest::constructor);
        check.sentence("README: what a refused call answers", ReadmeTest::refusedCalls);
        check.sentence("README: methods that only look answer -1", ReadmeTest::refusedLooks);
        check.finish();
    }

    private static void example() {
        DenseCast net = new DenseCast(3, 2, 4);
        net.attach(0, 0);
        net.attach(0, 1);
        net.attach(1, 1);
        net.attach(1, 2);
        net.join(1);
        check.due("send(0)", 1, net.send(0));
        check.due("received(2)", 1, net.received(2));
        check.due("pruneLeft(0, 1)", 4, net.pruneLeft(0, 1));
        check.due("second send(0)", 1, net.send(0));
        check.due("received(2) after the second send", 0, net.received(2));
        net.tick(4);
        check.due("pruneLeft(0, 1) after the ticks", 0, net.pruneLeft(0, 1));
        check.due("attach(2, 0)", false, net.attach(2, 0));
    }

    private static void constructor() {
        sizes(new DenseCast(Integer.MIN_VALUE, Integer.MIN_VALUE, Integer.MIN_VALUE), 2, 1, 1);
        sizes(new DenseCast(1, 0, 0), 2, 1, 1);
        sizes(new DenseCast(2, 1, 1), 2, 1, 1);
        sizes(new DenseCast(12, 16, 16), 12, 16, 16);
        sizes(new DenseCast(13, 17, 17), 12, 16, 16);
        sizes(new DenseCast(Integer.MAX_VALUE, Integer.MAX_VALUE, Integer.MAX_VALUE), 12, 16, 16);
    }

    private static void sizes(DenseCast net, int routers, int links, int hold) {
        check.due("the last router's state", 0, net.routerState(routers - 1));
        check.due("the state of one router more", -1, net.routerState(routers));
        check.due("the last link's state", 1, net.linkState(links - 1));
        check.due("the state of one link more", -1, net.linkState(links));
        net.attach(0, 0);
        net.attach(0, 1);
        net.send(0);
        check.due("the ticks of a prune", hold, net.pruneLeft(0, 0));
    }

    private static void refusedCalls() {
        DenseCast net = busy();
        String before = View.all(net);
        check.due("attach to no link", false, net.attach(2, 0));
        check.due("attach of no router", false, net.attach(0, 3));
        check.due("attach of a router that is there", false, net.attach(0, 0));
        check.due("detach from no link", false, net.detach(2, 0));
        check.due("detach of no router", false, net.detach(0, 3));
        check.due("detach of a router that is not there", false, net.detach(0, 2));
        check.due("setCost of no link", false, net.setCost(2, 1));
        check.due("setCost to 0", false, net.setCost(0, 0));
        check.due("setCost to 16", false, net.setCost(0, 16));
        check.due("setPreference of no router", false, net.setPreference(3, 0));
        check.due("setPreference to -1", false, net.setPreference(0, -1));
        check.due("setPreference to 256", false, net.setPreference(0, 256));
        check.due("join of no router", false, net.join(3));
        check.due("join of a member", false, net.join(1));
        check.due("leave of no router", false, net.leave(3));
        check.due("leave of no member", false, net.leave(2));
        check.due("send of no router", -1, net.send(3));
        net.tick(0);
        check.due("what refused calls leave", before, View.all(net));
    }

    private static void refusedLooks() {
        DenseCast net = busy();
        check.due("distance from no router", -1, net.distance(3, 0));
        check.due("distance to no router", -1, net.distance(0, 3));
        check.due("rpfLink from no router", -1, net.rpfLink(3, 0));
        check.due("rpfLink to no router", -1, net.rpfLink(0, 3));
        check.due("rpfLink of the source itself", -1, net.rpfLink(0, 0));
        check.due("forwarder for no router", -1, net.forwarder(3, 0));
        check.due("forwarder on no link", -1, net.forwarder(0, 2));
        check.due("forwarder without an assert", -1, net.forwarder(0, 0));
        check.due("pruneLeft for no router", -1, net.pruneLeft(3, 0));
        check.due("pruneLeft of no link", -1, net.pruneLeft(0, 2));
        check.due("received by no router", -1, net.received(3));
        check.due("carried by no link", -1, net.carried(2));
        check.due("linkState of no link", -1, net.linkState(2));
        check.due("routerState of no router", -1, net.routerState(3));
        net.detach(1, 2);
        check.due("distance without a way", -1, net.distance(0, 2));
        check.due("rpfLink without a way", -1, net.rpfLink(0, 2));
    }

    /** The example's network after its first packet, with router 1 a member and link 1 pruned. */
    private static DenseCast busy() {
        DenseCast net = new DenseCast(3, 2, 4);
        net.attach(0, 0);
        net.attach(0, 1);
        net.attach(1, 1);
        net.attach(1, 2);
        net.join(1);
        net.send(0);
        return net;
    }
}
