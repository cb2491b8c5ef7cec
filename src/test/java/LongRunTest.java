/** The same calls over and over give the same answers, however often they were made before. */
public final class LongRunTest {
    private static final int ROUNDS = 70_000;
    private static final Check check = new Check();

    public static void main(String[] args) {
        packetsAndTicks();
        changesOfTheNetwork();
        check.finish();
    }

    private static void packetsAndTicks() {
        DenseCast x = Nets.diamond(3);
        x.join(5);
        for (int round = 0; round < ROUNDS && !check.failed(); round++) {
            String where = "round " + round + ": ";
            check.due(where + "send(0)", 1, x.send(0));
            check.due(where + "carried(2)", round == 0 ? 2 : 1, x.carried(2));
            check.due(where + "received(5)", 1, x.received(5));
            check.due(where + "pruneLeft(0, 3)", 3, x.pruneLeft(0, 3));
            check.due(where + "join(4)", true, x.join(4));
            check.due(where + "pruneLeft(0, 3) after join", 0, x.pruneLeft(0, 3));
            check.due(where + "leave(4)", true, x.leave(4));
            x.tick(3);
        }
    }

    private static void changesOfTheNetwork() {
        DenseCast x = Nets.diamond(16);
        x.join(4);
        String settings = View.settings(x);
        for (int round = 0; round < ROUNDS && !check.failed(); round++) {
            String where = "round " + round + ": ";
            check.due(where + "send(0)", 1, x.send(0));
            check.due(where + "carried(2)", 2, x.carried(2));
            check.due(where + "forwarder(0, 2)", 2, x.forwarder(0, 2));
            check.due(where + "detach(3, 4)", true, x.detach(3, 4));
            check.due(where + "distance(0, 4)", -1, x.distance(0, 4));
            check.due(where + "attach(3, 4)", true, x.attach(3, 4));
            check.due(where + "distance(0, 4) again", 3, x.distance(0, 4));
            check.due(where + "carried(2) after RESET", 0, x.carried(2));
        }
        check.due("settings at the end", settings, View.settings(x));
    }
}
