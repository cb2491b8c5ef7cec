/** Promise 8: a packet floods in rounds, asserts are settled, and unwanted links are pruned. */
public final class SendTest {
    private static final Check check = new Check();

    public static void main(String[] args) {
        answersReachedMembers();
        sourceWithoutLink();
        replacesTheRecord();
        leavesOtherSourcesAlone();
        assertByPreference();
        assertByDistance();
        assertByNumber();
        loserKeepsSilent();
        prunedLinkKeepsSilent();
        copiesMeetUnaccepted();
        needIsHandedUp();
        sourceMemberWantsNothing();
        aloneIsNotElected();
        refuses();
        check.finish();
    }

    private static void record(String what, DenseCast x, int[] received, int[] carried) {
        for (int router = 0; router < received.length; router++) {
            check.due("P8 " + what + ": received(" + router + ")", received[router], x.received(router));
        }
        for (int link = 0; link < carried.length; link++) {
            check.due("P8 " + what + ": carried(" + link + ")", carried[link], x.carried(link));
        }
    }

    private static void prunes(String what, DenseCast x, int source, int... due) {
        for (int link = 0; link < due.length; link++) {
            check.due("P8 " + what + ": pruneLeft(" + source + ", " + link + ")", due[link], x.pruneLeft(source, link));
        }
    }

    private static void answersReachedMembers() {
        DenseCast x = Nets.line(12, 4);
        for (int router = 0; router < 12; router++) {
            check.due("P8 send(5)", router, x.send(5));
            x.join(router);
        }
        check.due("P8 send(5) with members alone", 12, x.send(5));
        x.detach(8, 9);
        check.due("P8 send(5) with three apart", 9, x.send(5));
        check.due("P8 send(10) with nine apart", 3, x.send(10));
        x.leave(10);
        check.due("P8 send(10), itself no member", 2, x.send(10));
    }

    private static void sourceWithoutLink() {
        DenseCast x = Nets.diamond(3);
        x.detach(4, 5);
        check.due("P8 send(5), apart, no member", 0, x.send(5));
        record("source apart", x, new int[] {0, 0, 0, 0, 0, 1}, new int[5]);
        x.join(5);
        check.due("P8 send(5), apart, member", 1, x.send(5));
        record("source apart", x, new int[] {0, 0, 0, 0, 0, 1}, new int[5]);
        check.due("P8 send(3) beside a link of one", 0, x.send(3));
        check.due("P8 carried(4), a link of one", 0, x.carried(4));
        check.due("P8 pruneLeft(3, 4), a link of one", 0, x.pruneLeft(3, 4));
        check.due("P8 pruneLeft(5, 4)", 0, x.pruneLeft(5, 4));
    }

    private static void replacesTheRecord() {
        DenseCast x = Nets.diamond(3);
        x.send(0);
        record("first", x, new int[] {1, 1, 1, 2, 1, 1}, new int[] {1, 1, 2, 1, 1});
        x.send(4);
        record("second", x, new int[] {1, 1, 1, 1, 1, 1}, new int[] {1, 2, 1, 1, 1});
    }

    private static void leavesOtherSourcesAlone() {
        DenseCast x = Nets.diamond(3);
        x.join(5);
        x.send(0);
        x.tick(1);
        String settings = View.settings(x) + View.routes(x);
        x.send(3);
        prunes("source 0 after send(3)", x, 0, 2, 0, 0, 2, 0);
        check.due("P8 forwarder(0, 2)", 2, x.forwarder(0, 2));
        for (int source : new int[] {1, 2, 4, 5}) {
            prunes("a source that sent nothing", x, source, 0, 0, 0, 0, 0);
            check.due("P8 forwarder(" + source + ", 2)", -1, x.forwarder(source, 2));
        }
        check.due("P8 settings after sends", settings, View.settings(x) + View.routes(x));
    }

    /** Source 0 reaches the LAN of 1, 2, 3 and 4 (link 3) through three first links; 4 listens there. */
    private static DenseCast threeWays(int cost1, int cost2, int cost3) {
        DenseCast x = new DenseCast(5, 4, 3);
        Nets.wire(x, 0, 0, 1);
        Nets.wire(x, 1, 0, 2);
        Nets.wire(x, 2, 0, 3);
        Nets.wire(x, 3, 1, 2, 3, 4);
        x.setCost(0, cost1);
        x.setCost(1, cost2);
        x.setCost(2, cost3);
        x.setCost(3, 10);
        x.join(4);
        return x;
    }

    private static void assertByPreference() {
        DenseCast x = threeWays(5, 2, 2);
        x.setPreference(1, 3);
        x.setPreference(2, 4);
        x.setPreference(3, 255);
        check.due("P8 send(0)", 1, x.send(0));
        check.due("P8 carried(3)", 3, x.carried(3));
        check.due("P8 received(4)", 3, x.received(4));
        check.due("P8 forwarder(0, 3) by preference", 1, x.forwarder(0, 3));
        prunes("by preference", x, 0, 0, 3, 3, 0);
    }

    private static void assertByDistance() {
        int[][] costs = {{2, 5, 5}, {5, 2, 5}, {5, 5, 2}, {2, 3, 4}, {4, 3, 2}};
        int[] due = {1, 2, 3, 1, 3};
        for (int i = 0; i < due.length; i++) {
            DenseCast x = threeWays(costs[i][0], costs[i][1], costs[i][2]);
            x.send(0);
            check.due("P8 forwarder(0, 3) by distance, case " + i, due[i], x.forwarder(0, 3));
        }
    }

    private static void assertByNumber() {
        int[][] costs = {{2, 2, 2}, {2, 2, 5}, {2, 5, 2}, {5, 2, 2}};
        int[] due = {3, 2, 3, 3};
        for (int i = 0; i < due.length; i++) {
            DenseCast x = threeWays(costs[i][0], costs[i][1], costs[i][2]);
            x.send(0);
            check.due("P8 forwarder(0, 3) by number, case " + i, due[i], x.forwarder(0, 3));
        }
        DenseCast y = threeWays(2, 2, 2);
        y.setPreference(3, 1);
        y.send(0);
        check.due("P8 forwarder(0, 3), 3 out by preference", 2, y.forwarder(0, 3));
    }

    private static void loserKeepsSilent() {
        DenseCast x = threeWays(2, 2, 2);
        for (int router = 1; router < 4; router++) {
            x.join(router);
        }
        check.due("P8 send(0)", 4, x.send(0));
        record("first", x, new int[] {1, 1, 1, 1, 3}, new int[] {1, 1, 1, 3});
        prunes("nothing to prune", x, 0, 0, 0, 0, 0);
        check.due("P8 send(0) again", 4, x.send(0));
        record("second", x, new int[] {1, 1, 1, 1, 1}, new int[] {1, 1, 1, 1});
        check.due("P8 forwarder(0, 3) stays", 3, x.forwarder(0, 3));
        prunes("still nothing to prune", x, 0, 0, 0, 0, 0);
    }

    private static void prunedLinkKeepsSilent() {
        DenseCast x = Nets.line(4, 3);
        x.join(1);
        check.due("P8 send(0)", 1, x.send(0));
        record("first", x, new int[] {1, 1, 1, 1}, new int[] {1, 1, 1});
        prunes("first", x, 0, 0, 3, 3);
        x.tick(1);
        check.due("P8 send(0)", 1, x.send(0));
        record("pruned", x, new int[] {1, 1, 0, 0}, new int[] {1, 0, 0});
        prunes("a link that carried nothing keeps its timer", x, 0, 0, 2, 2);
        x.tick(2);
        check.due("P8 send(0)", 1, x.send(0));
        record("after the hold", x, new int[] {1, 1, 1, 1}, new int[] {1, 1, 1});
        prunes("after the hold", x, 0, 0, 3, 3);
    }

    /** A ring of five: the copies meet on the far link, and nobody accepts off his reverse path. */
    private static void copiesMeetUnaccepted() {
        DenseCast x = new DenseCast(5, 5, 6);
        Nets.wire(x, 0, 0, 1);
        Nets.wire(x, 1, 1, 2);
        Nets.wire(x, 2, 2, 3);
        Nets.wire(x, 3, 3, 4);
        Nets.wire(x, 4, 4, 0);
        x.join(2);
        x.join(3);
        check.due("P8 send(0) round a ring of five", 2, x.send(0));
        record("ring of five", x, new int[] {1, 1, 1, 1, 1}, new int[] {1, 1, 2, 1, 1});
        prunes("ring of five", x, 0, 0, 0, 6, 0, 0);
        check.due("P8 forwarder(0, 2) of the meeting link", 3, x.forwarder(0, 2));
        check.due("P8 send(0) once more", 2, x.send(0));
        record("ring of five", x, new int[] {1, 1, 1, 1, 1}, new int[] {1, 1, 0, 1, 1});
    }

    private static void needIsHandedUp() {
        DenseCast x = Nets.line(12, 16);
        x.join(11);
        check.due("P8 send(0)", 1, x.send(0));
        prunes("all wanted", x, 0, 0, 0, 0, 0, 0, 0, 0, 0, 0, 0, 0);
        DenseCast y = Nets.line(12, 16);
        y.join(0);
        check.due("P8 send(11)", 1, y.send(11));
        prunes("all wanted", y, 11, 0, 0, 0, 0, 0, 0, 0, 0, 0, 0, 0);
        y.leave(0);
        y.join(6);
        check.due("P8 send(11)", 1, y.send(11));
        prunes("wanted as far as 6", y, 11, 16, 16, 16, 16, 16, 16, 0, 0, 0, 0, 0);
    }

    private static void sourceMemberWantsNothing() {
        DenseCast x = Nets.line(3, 2);
        x.join(0);
        check.due("P8 send(0), member alone", 1, x.send(0));
        prunes("member source", x, 0, 2, 2);
        check.due("P8 send(0), all pruned", 1, x.send(0));
        record("all pruned", x, new int[] {1, 0, 0}, new int[] {0, 0});
    }

    private static void aloneIsNotElected() {
        DenseCast x = Nets.diamond(3);
        x.send(0);
        int[] due = {-1, -1, 2, -1, -1};
        for (int link = 0; link < 5; link++) {
            check.due("P8 forwarder(0, " + link + ")", due[link], x.forwarder(0, link));
        }
    }

    private static void refuses() {
        DenseCast x = Nets.busyDiamond(4);
        String before = View.all(x);
        for (int source : Nets.WRONG_ROUTERS) {
            check.due("P8 send(" + source + ")", -1, x.send(source));
        }
        check.due("P8 state after refusals", before, View.all(x));
    }
}
