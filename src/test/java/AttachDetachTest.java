/** Promises 2 and 3: attachments come and go, each with a RESET, and wrong calls change nothing. */
public final class AttachDetachTest {
    private static final Check check = new Check();

    public static void main(String[] args) {
        attachAdds();
        attachResets();
        detachRemoves();
        detachResets();
        check.finish();
    }

    private static void attachAdds() {
        DenseCast x = new DenseCast(12, 16, 4);
        int set = 0;
        for (int router = 11; router >= 0; router--) {
            check.due("P2 attach(15, " + router + ")", true, x.attach(15, router));
            set |= 1 << router;
            check.due("P2 linkState(15)", 1 + 16 * set, x.linkState(15));
        }
        for (int link = 0; link < 15; link++) {
            check.due("P2 linkState(" + link + ") of another link", 1, x.linkState(link));
        }
    }

    private static void attachResets() {
        DenseCast x = Nets.busyDiamond(4);
        String links = "links -1 49 81 225 391 641 -1 -1 -1 -1 -1 -1 -1 -1 -1 -1 -1 -1\n";
        String routers = "routers -1 256 0 0 0 456 0 -1 -1 -1 -1 -1 -1 -1\n";
        check.due("P2 settings before", links + routers, View.settings(x));
        check.due("P2 attach(4, 0)", true, x.attach(4, 0));
        check.due("P2 settings after", links.replace("641", "657") + routers, View.settings(x));
        String state = View.prunes(x) + View.forwarders(x) + View.record(x);
        check.due("P2 state after attach", Nets.freshProtocol(), state);
        check.due("P2 distance(0, 3)", 1, x.distance(0, 3));
        check.due("P2 rpfLink(0, 3)", 4, x.rpfLink(0, 3));
    }

    private static void detachRemoves() {
        DenseCast x = new DenseCast(12, 16, 4);
        Nets.wire(x, 15, 0, 1, 2, 3, 4, 5, 6, 7, 8, 9, 10, 11);
        Nets.wire(x, 14, 0, 11);
        int set = 0xfff;
        for (int router = 0; router < 12; router++) {
            check.due("P3 detach(15, " + router + ")", true, x.detach(15, router));
            set &= ~(1 << router);
            check.due("P3 linkState(15)", 1 + 16 * set, x.linkState(15));
        }
        check.due("P3 linkState(14)", 1 + 16 * 0x801, x.linkState(14));
        check.due("P3 detach(15, 3) once more", false, x.detach(15, 3));
        check.due("P3 attach(15, 3) again", true, x.attach(15, 3));
    }

    private static void detachResets() {
        DenseCast x = Nets.busyDiamond(4);
        check.due("P3 detach(2, 2)", true, x.detach(2, 2));
        String due = "links -1 49 81 161 391 641 -1 -1 -1 -1 -1 -1 -1 -1 -1 -1 -1 -1\n"
            + "routers -1 256 0 0 0 456 0 -1 -1 -1 -1 -1 -1 -1\n";
        check.due("P3 settings after", due, View.settings(x));
        String state = View.prunes(x) + View.forwarders(x) + View.record(x);
        check.due("P3 state after detach", Nets.freshProtocol(), state);
        check.due("P3 distance(2, 3)", 3, x.distance(2, 3));
        check.due("P3 detach(0, 1)", true, x.detach(0, 1));
        check.due("P3 distance(2, 3) without a way", -1, x.distance(2, 3));
        check.due("P3 distance(0, 1) over a link of one", -1, x.distance(0, 1));
    }
}
