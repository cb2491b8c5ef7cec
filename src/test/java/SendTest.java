/** Promise 8: a packet floods in rounds, asserts are settled, and unwanted links are pruned. */
public final class SendTest {
    private static final Check check = new Check();

    public static void main(String[] args) {
        answersReachedMembers();
        replacesTheRecord();
        leavesOtherSourcesAlone();
        assertByPreference();
        loserKeepsSilent();
        prunedLinkKeepsSilent();
        copiesMeetUnaccepted();
        needIsHandedUp();
        sourceMemberWantsNothing();
        aloneIsNotElected();
        check.finish();
    }

    private static void answersReachedMembers() {
        DenseCast x = Nets.line(12, 4);
        for (int router = 0; router < 12; router++) {
            check.due("P8 send(5)", router, x.send(5));
            x.join(router);
        }
        check.due("P8 send(5) with members alone", 12, x.send(5));
        x.detach(8, 9);
        check.due("P8 send(5) with three apart", 9, x.send(5));
        check.due("P8 send(10) with nine apart", 3, x.send(10));
        x.leave(10);
        check.due("P8 send(10), itself no member", 2, x.send(10));
    }

    private static void replacesTheRecord() {
        DenseCast x = Nets.diamond(3);
        x.send(0);
        check.record("P8 first", x, new int[] {1, 1, 1, 2, 1, 1}, new int[] {1, 1, 2, 1, 1});
        x.send(4);
        check.record("P8 second", x, new int[] {1, 1, 1, 1, 1, 1}, new int[] {1, 2, 1, 1, 1});
    }

    private static void leavesOtherSourcesAlone() {
        DenseCast x = Nets.diamond(3);
        x.join(5);
        x.send(0);
        x.tick(1);
        String settings = View.settings(x) + View.routes(x);
        x.send(3);
        check.timers("P8 source 0 after send(3)", x, 0, 2, 0, 0, 2, 0);
        check.due("P8 forwarder(0, 2)", 2, x.forwarder(0, 2));
        for (int source : new int[] {1, 2, 4, 5}) {
            check.timers("P8 a source that sent nothing", x, source, 0, 0, 0, 0, 0);
            check.due("P8 forwarder(" + source + ", 2)", -1, x.forwarder(source, 2));
        }
        check.due("P8 settings after sends", settings, View.settings(x) + View.routes(x));
    }

    private static void assertByPreference() {
        DenseCast x = Nets.threeWays(5, 2, 2);
        x.join(4);
        x.setPreference(1, 3);
        x.setPreference(2, 4);
        x.setPreference(3, 255);
        check.due("P8 send(0)", 1, x.send(0));
        check.due("P8 carried(3)", 3, x.carried(3));
        check.due("P8 received(4)", 3, x.received(4));
        check.due("P8 forwarder(0, 3) by preference", 1, x.forwarder(0, 3));
        check.timers("P8 by preference", x, 0, 0, 3, 3, 0);
    }

    private static void loserKeepsSilent() {
        DenseCast x = Nets.threeWays(2, 2, 2);
        for (int router = 1; router <= 4; router++) {
            x.join(router);
        }
        check.due("P8 send(0)", 4, x.send(0));
        check.record("P8 first", x, new int[] {1, 1, 1, 1, 3}, new int[] {1, 1, 1, 3});
        check.timers("P8 nothing to prune", x, 0, 0, 0, 0, 0);
        check.due("P8 send(0) again", 4, x.send(0));
        check.record("P8 second", x, new int[] {1, 1, 1, 1, 1}, new int[] {1, 1, 1, 1});
        check.due("P8 forwarder(0, 3) stays", 3, x.forwarder(0, 3));
        check.timers("P8 still nothing to prune", x, 0, 0, 0, 0, 0);
    }

    private static void prunedLinkKeepsSilent() {
        DenseCast x = Nets.line(4, 3);
        x.join(1);
        check.due("P8 send(0)", 1, x.send(0));
        check.record("P8 first", x, new int[] {1, 1, 1, 1}, new int[] {1, 1, 1});
        check.timers("P8 first", x, 0, 0, 3, 3);
        x.tick(1);
        check.due("P8 send(0)", 1, x.send(0));
        check.record("P8 pruned", x, new int[] {1, 1, 0, 0}, new int[] {1, 0, 0});
        check.timers("P8 a link that carried nothing keeps its timer", x, 0, 0, 2, 2);
        x.tick(2);
        check.due("P8 send(0)", 1, x.send(0));
        check.record("P8 after the hold", x, new int[] {1, 1, 1, 1}, new int[] {1, 1, 1});
        check.timers("P8 after the hold", x, 0, 0, 3, 3);
    }

    /** A ring of five: the copies meet on the far link, and nobody accepts off his reverse path. */
    private static void copiesMeetUnaccepted() {
        DenseCast x = Nets.ring(5, 1, 6);
        x.join(2);
        x.join(3);
        check.due("P8 send(0) round a ring of five", 2, x.send(0));
        check.record("P8 ring of five", x, new int[] {1, 1, 1, 1, 1}, new int[] {1, 1, 2, 1, 1});
        check.timers("P8 ring of five", x, 0, 0, 0, 6, 0, 0);
        check.due("P8 forwarder(0, 2) of the meeting link", 3, x.forwarder(0, 2));
        check.due("P8 send(0) once more", 2, x.send(0));
        check.record("P8 ring of five", x, new int[] {1, 1, 1, 1, 1}, new int[] {1, 1, 0, 1, 1});
    }

    private static void needIsHandedUp() {
        DenseCast x = Nets.line(12, 16);
        x.join(11);
        check.due("P8 send(0)", 1, x.send(0));
        check.timers("P8 all wanted", x, 0, 0, 0, 0, 0, 0, 0, 0, 0, 0, 0, 0);
        DenseCast y = Nets.line(12, 16);
        y.join(0);
        check.due("P8 send(11)", 1, y.send(11));
        check.timers("P8 all wanted", y, 11, 0, 0, 0, 0, 0, 0, 0, 0, 0, 0, 0);
        y.leave(0);
        y.join(6);
        check.due("P8 send(11)", 1, y.send(11));
        check.timers("P8 wanted as far as 6", y, 11, 16, 16, 16, 16, 16, 16, 0, 0, 0, 0, 0);
    }

    private static void sourceMemberWantsNothing() {
        DenseCast x = Nets.line(3, 2);
        x.join(0);
        check.due("P8 send(0), member alone", 1, x.send(0));
        check.timers("P8 member source", x, 0, 2, 2);
        check.due("P8 send(0), all pruned", 1, x.send(0));
        check.record("P8 all pruned", x, new int[] {1, 0, 0}, new int[] {0, 0});
    }

    private static void aloneIsNotElected() {
        DenseCast x = Nets.diamond(3);
        x.send(0);
        int[] due = {-1, -1, 2, -1, -1};
        for (int link = 0; link < 5; link++) {
            check.due("P8 forwarder(0, " + link + ")", due[link], x.forwarder(0, link));
        }
    }
}
