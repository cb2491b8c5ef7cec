/** Promise 9: ticks take every prune timer down, and nothing else. */
public final class TickTest {
    private static final Check check = new Check();

    public static void main(String[] args) {
        countsDown();
        stopsAtZero();
        ignoresBelowOne();
        reachesEverySourceAndLink();
        changesTimersOnly();
        check.finish();
    }

    private static DenseCast prunedLine() {
        DenseCast x = Nets.line(2, 16);
        x.send(0);
        return x;
    }

    private static void countsDown() {
        DenseCast x = prunedLine();
        for (int left = 15; left >= 0; left--) {
            x.tick(1);
            check.due("P9 pruneLeft(0, 0) after tick(1)", left, x.pruneLeft(0, 0));
        }
        for (int n = 1; n <= 16; n++) {
            DenseCast y = prunedLine();
            y.tick(n);
            check.due("P9 pruneLeft(0, 0) after tick(" + n + ")", 16 - n, y.pruneLeft(0, 0));
        }
    }

    private static void stopsAtZero() {
        int[] spans = {17, 63, 64, 65, 1000, Integer.MAX_VALUE};
        for (int n : spans) {
            DenseCast x = prunedLine();
            x.tick(n);
            check.due("P9 pruneLeft(0, 0) after tick(" + n + ")", 0, x.pruneLeft(0, 0));
            x.tick(1);
            check.due("P9 pruneLeft(0, 0) one tick later", 0, x.pruneLeft(0, 0));
            x.send(0);
            check.due("P9 carried(0) after the prune's end", 1, x.carried(0));
        }
    }

    private static void ignoresBelowOne() {
        int[] spans = {0, -1, -16, -64, -65, Integer.MIN_VALUE};
        for (int n : spans) {
            DenseCast x = Nets.busyDiamond(4);
            String before = View.all(x);
            x.tick(n);
            check.due("P9 state after tick(" + n + ")", before, View.all(x));
        }
    }

    private static void reachesEverySourceAndLink() {
        DenseCast x = Nets.line(12, 16);
        for (int source = 0; source < 12; source++) {
            x.send(source);
            x.tick(1);
        }
        for (int source = 0; source < 12; source++) {
            for (int link = 0; link < 11; link++) {
                check.due("P9 pruneLeft(" + source + ", " + link + ")", 4 + source, x.pruneLeft(source, link));
            }
        }
    }

    private static void changesTimersOnly() {
        DenseCast x = Nets.busyDiamond(4);
        String before = View.settings(x) + View.routes(x) + View.forwarders(x) + View.record(x);
        x.tick(64);
        String after = View.settings(x) + View.routes(x) + View.forwarders(x) + View.record(x);
        check.due("P9 state after tick(64)", before, after);
        check.due("P9 forwarder(0, 2)", 2, x.forwarder(0, 2));
        for (int link = 0; link < 5; link++) {
            check.due("P9 pruneLeft(0, " + link + ")", 0, x.pruneLeft(0, link));
            check.due("P9 pruneLeft(3, " + link + ")", 0, x.pruneLeft(3, link));
        }
    }
}
