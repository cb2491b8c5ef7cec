/** Boundary cases of promise 9, each under the words of the document that name it. */
public final class TickTest {
    private static final Check check = new Check();

    public static void main(String[] args) {
        check.sentence("P9: when n < 1 nothing happens", TickTest::belowOne);
        check.sentence("P9: n = 1 is the least that counts", TickTest::one);
        check.sentence("P9: a value n > 64 is taken as 64, as far as it shows", TickTest::aboveTheGreatest);
        check.sentence("P9: P(s,k) becomes P(s,k) - n, just to 0 and just above it", TickTest::justToZero);
        check.sentence("P9: or 0 when that would be below 0", TickTest::notBelowZero);
        check.sentence("P9: a timer that is 0 stays 0", TickTest::zeroStays);
        check.sentence("P9: for every s < R and k < L", TickTest::everySourceAndLink);
        check.sentence("P9: a timer reaching 0 ends that prune", TickTest::zeroEndsThePrune);
        check.sentence("P9: nothing else changes", TickTest::nothingElse);
        check.finish();
    }

    private static void belowOne() {
        int[] spans = {0, -1, -2, -15, -16, -17, -63, -64, -65, -65536, Integer.MIN_VALUE + 1, Integer.MIN_VALUE};
        for (Edges.Net net : Edges.nets()) {
            for (int n : spans) {
                String before = View.all(net.x());
                net.x().tick(n);
                check.due(net.name() + "state after tick(" + n + ")", before, View.all(net.x()));
            }
        }
    }

    /** Both ways of a line of two are pruned, the way of source 1 two ticks later. */
    private static DenseCast twoTimers(int hold) {
        DenseCast x = Nets.line(2, hold);
        x.send(0);
        x.tick(2);
        x.send(1);
        return x;
    }

    private static void one() {
        DenseCast x = twoTimers(16);
        for (int left = 16; left >= 1; left--) {
            check.due("pruneLeft(1, 0)", left, x.pruneLeft(1, 0));
            check.due("pruneLeft(0, 0)", left > 2 ? left - 2 : 0, x.pruneLeft(0, 0));
            x.tick(1);
        }
        check.due("pruneLeft(1, 0) at the end", 0, x.pruneLeft(1, 0));
    }

    /** No timer is above 16, so every n from 16 on has the same effect; a cut below 16 would show. */
    private static void aboveTheGreatest() {
        int[] spans = {16, 17, 32, 63, 64, 65, 66, 80, 127, 128, 129, 192, 255, 256, 257, 65536, 65537, 1 << 30,
            Integer.MAX_VALUE - 64, Integer.MAX_VALUE - 1, Integer.MAX_VALUE};
        for (int n : spans) {
            for (int hold : new int[] {1, 16}) {
                DenseCast x = Nets.line(2, hold);
                x.send(0);
                x.send(1);
                x.tick(n);
                check.due("pruneLeft(0, 0) of " + hold + " after tick(" + n + ")", 0, x.pruneLeft(0, 0));
                check.due("pruneLeft(1, 0) of " + hold + " after tick(" + n + ")", 0, x.pruneLeft(1, 0));
                x.send(0);
                check.due("carried(0) after tick(" + n + ")", 1, x.carried(0));
                check.due("pruneLeft(0, 0) after tick(" + n + ") and a send", hold, x.pruneLeft(0, 0));
            }
        }
    }

    private static void justToZero() {
        for (int hold = 1; hold <= 16; hold++) {
            for (int n = 1; n <= hold; n++) {
                DenseCast x = Nets.line(2, hold);
                x.send(0);
                x.tick(n);
                check.due("pruneLeft(0, 0) of " + hold + " after tick(" + n + ")", hold - n, x.pruneLeft(0, 0));
            }
        }
    }

    private static void notBelowZero() {
        for (int hold = 1; hold <= 16; hold++) {
            for (int n = hold + 1; n <= 64; n++) {
                DenseCast x = Nets.line(2, hold);
                x.send(0);
                x.tick(n);
                check.due("pruneLeft(0, 0) of " + hold + " after tick(" + n + ")", 0, x.pruneLeft(0, 0));
            }
        }
        DenseCast x = twoTimers(5);
        x.tick(4);
        check.due("pruneLeft(0, 0), 3 less 4", 0, x.pruneLeft(0, 0));
        check.due("pruneLeft(1, 0), 5 less 4", 1, x.pruneLeft(1, 0));
    }

    private static void zeroStays() {
        DenseCast x = Nets.line(12, 4);
        x.join(11);
        x.send(0);
        for (int n : new int[] {1, 4, 64, 65, Integer.MAX_VALUE}) {
            x.tick(n);
            for (int link = 0; link < 11; link++) {
                check.due("pruneLeft(0, " + link + ") after tick(" + n + ")", 0, x.pruneLeft(0, link));
            }
        }
        DenseCast empty = new DenseCast(2, 1, 1);
        String before = View.all(empty);
        empty.tick(64);
        check.due("state of an empty network", before, View.all(empty));
    }

    private static void everySourceAndLink() {
        for (int hub : new int[] {0, 15}) {
            Edges.Net net = Edges.crowded(12, 16, hub);
            net.x().tick(3);
            for (int source = 0; source < 12; source++) {
                for (int link = 0; link < 16; link++) {
                    String call = "pruneLeft(" + source + ", " + link + ") after tick(3)";
                    check.due(call, 2 + source, net.x().pruneLeft(source, link));
                }
            }
        }
        Edges.Net pair = Edges.crowded(2, 1, 0);
        pair.x().tick(13);
        check.due("pruneLeft(0, 0) of 2 routers, 1 link", 2, pair.x().pruneLeft(0, 0));
        check.due("pruneLeft(1, 0) of 2 routers, 1 link", 3, pair.x().pruneLeft(1, 0));
    }

    private static void zeroEndsThePrune() {
        for (int hold : new int[] {1, 16}) {
            DenseCast x = Nets.line(12, hold);
            x.send(0);
            x.tick(hold - 1);
            x.send(0);
            check.due("carried(0) with a tick left of " + hold, 0, x.carried(0));
            x.tick(1);
            x.send(0);
            for (int link = 0; link < 11; link++) {
                check.due("carried(" + link + ") at the end of " + hold, 1, x.carried(link));
            }
        }
    }

    private static void nothingElse() {
        Edges.Net crowded = Edges.crowded(12, 16, 8, 3, 9);
        check.due("settings after ticks", Edges.crowdedSettings(12, 16, 8, 3, 9), View.settings(crowded.x()));
        for (int n : new int[] {1, 16, 64, 65, Integer.MAX_VALUE}) {
            for (Edges.Net net : Edges.nets()) {
                String before = rest(net.x());
                net.x().tick(n);
                check.due(net.name() + "all but the timers after tick(" + n + ")", before, rest(net.x()));
            }
        }
    }

    private static String rest(DenseCast x) {
        return View.settings(x) + View.routes(x) + View.forwarders(x) + View.record(x);
    }
}
