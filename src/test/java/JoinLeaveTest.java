/** Promises 6 and 7: hosts join with a graft toward every source, and leave without any other change. */
public final class JoinLeaveTest {
    private static final Check check = new Check();

    public static void main(String[] args) {
        joinSetsTheFlag();
        joinGraftsTheWholePath();
        joinFollowsTheAssertWinner();
        joinChangesTimersOnly();
        leaveClearsTheFlag();
        check.finish();
    }

    private static void joinSetsTheFlag() {
        DenseCast x = new DenseCast(12, 1, 4);
        x.setPreference(11, 255);
        check.due("P6 join(11)", true, x.join(11));
        check.due("P6 routerState(11)", 511, x.routerState(11));
        check.due("P6 routerState(10)", 0, x.routerState(10));
        check.due("P6 join(0)", true, x.join(0));
        check.due("P6 routerState(0)", 256, x.routerState(0));
    }

    private static void joinGraftsTheWholePath() {
        DenseCast x = Nets.line(12, 9);
        x.send(0);
        for (int link = 0; link < 11; link++) {
            check.due("P6 pruneLeft(0, " + link + ") before", 9, x.pruneLeft(0, link));
        }
        x.join(10);
        for (int link = 0; link < 11; link++) {
            check.due("P6 pruneLeft(0, " + link + ")", link < 10 ? 0 : 9, x.pruneLeft(0, link));
        }
        x.join(11);
        check.due("P6 pruneLeft(0, 10)", 0, x.pruneLeft(0, 10));
        check.due("P6 send(0)", 2, x.send(0));
    }

    private static void joinFollowsTheAssertWinner() {
        DenseCast x = Nets.diamond(3);
        x.setPreference(2, 5);
        x.send(0);
        check.due("P6 forwarder(0, 2)", 1, x.forwarder(0, 2));
        x.join(4);
        int[] due = {0, 3, 0, 0, 3};
        for (int link = 0; link < 5; link++) {
            check.due("P6 pruneLeft(0, " + link + ") by way of 1", due[link], x.pruneLeft(0, link));
        }
        DenseCast y = Nets.diamond(3);
        y.send(0);
        check.due("P6 forwarder(0, 2)", 2, y.forwarder(0, 2));
        y.join(4);
        int[] dueOther = {3, 0, 0, 0, 3};
        for (int link = 0; link < 5; link++) {
            check.due("P6 pruneLeft(0, " + link + ") by way of 2", dueOther[link], y.pruneLeft(0, link));
        }
    }

    private static void joinChangesTimersOnly() {
        DenseCast x = Nets.diamond(3);
        x.send(0);
        String before = View.routes(x) + View.forwarders(x) + View.record(x);
        String settings = View.settings(x);
        x.join(5);
        check.due("P6 state after join", before, View.routes(x) + View.forwarders(x) + View.record(x));
        check.due("P6 settings after join", settings.replace(" 0 0 0 0 0 0 ", " 0 0 0 0 0 256 "), View.settings(x));
        check.due("P6 pruneLeft(0, 3), off the path", 3, x.pruneLeft(0, 3));
        check.due("P6 pruneLeft(0, 4), on the path", 0, x.pruneLeft(0, 4));
    }

    private static void leaveClearsTheFlag() {
        DenseCast x = Nets.busyDiamond(4);
        String before = View.all(x);
        check.due("P7 leave(4)", true, x.leave(4));
        check.due("P7 routerState(4)", 200, x.routerState(4));
        check.due("P7 state after leave", before.replace(" 456 ", " 200 "), View.all(x));
        check.due("P7 leave(4) once more", false, x.leave(4));
        check.due("P7 pruneLeft(0, 3) before the next send", 0, x.pruneLeft(0, 3));
        check.due("P7 send(0)", 1, x.send(0));
        check.due("P7 pruneLeft(0, 3)", 4, x.pruneLeft(0, 3));
        check.due("P7 join(4) again", true, x.join(4));
    }
}
