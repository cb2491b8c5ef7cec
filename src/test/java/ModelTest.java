/** All promises together: long mixed runs, each call compared with the model in answer and state. */
public final class ModelTest {
    private static final int RUNS = 400;
    private static final int CALLS = 80;
    private static final Check check = new Check();
    private static long dice = 20261115L;

    public static void main(String[] args) {
        for (int run = 0; run < RUNS && !check.failed(); run++) {
            mixedRun(run);
        }
        check.finish();
    }

    /** A fixed sequence of numbers from least to greatest, the same at every start of the test. */
    private static int roll(int least, int greatest) {
        dice = dice * 6364136223846793005L + 1442695040888963407L;
        return least + (int) ((dice >>> 33) % (greatest - least + 1));
    }

    private static void mixedRun(int run) {
        int routers = roll(1, 13);
        int links = roll(0, 17);
        int hold = roll(0, 17);
        DenseCast x = new DenseCast(routers, links, hold);
        Model due = new Model(routers, links, hold);
        StringBuilder calls = new StringBuilder("run " + run + ": new(" + routers + ", " + links + ", " + hold + ")");
        wire(x, due, calls);
        for (int i = 0; i < CALLS && !check.failed(); i++) {
            oneCall(x, due, calls);
            check.due("state after " + calls, due.view(), View.all(x));
        }
    }

    /** Few attachments make trees and islands, many make LANs with several forwarders. */
    private static void wire(DenseCast x, Model due, StringBuilder calls) {
        int count = roll(due.links, 4 * due.links);
        for (int i = 0; i < count; i++) {
            attach(x, due, calls, roll(0, due.links - 1), roll(0, due.routers - 1));
        }
        int greatest = roll(1, 4);
        for (int link = 0; link < due.links; link++) {
            int cost = roll(1, greatest);
            calls.append(" setCost(" + link + ", " + cost + ")");
            check.due(calls.toString(), due.setCost(link, cost), x.setCost(link, cost));
        }
    }

    private static void attach(DenseCast x, Model due, StringBuilder calls, int link, int router) {
        calls.append(" attach(" + link + ", " + router + ")");
        check.due(calls.toString(), due.attach(link, router), x.attach(link, router));
    }

    private static void oneCall(DenseCast x, Model due, StringBuilder calls) {
        int router = roll(0, 19) == 0 ? anyNumber(due.routers) : roll(0, due.routers - 1);
        int link = roll(0, 19) == 0 ? anyNumber(due.links) : roll(0, due.links - 1);
        // Changes of the network are rare, since each one forgets what the packets have set up.
        int kind = roll(0, 59);
        if (kind < 1) {
            attach(x, due, calls, link, router);
        } else if (kind < 2) {
            calls.append(" detach(" + link + ", " + router + ")");
            check.due(calls.toString(), due.detach(link, router), x.detach(link, router));
        } else if (kind < 3) {
            int cost = roll(0, 9) == 0 ? anyNumber(16) : roll(1, 15);
            calls.append(" setCost(" + link + ", " + cost + ")");
            check.due(calls.toString(), due.setCost(link, cost), x.setCost(link, cost));
        } else if (kind < 5) {
            int preference = roll(0, 9) == 0 ? anyNumber(256) : roll(0, 2);
            calls.append(" setPreference(" + router + ", " + preference + ")");
            check.due(calls.toString(), due.setPreference(router, preference), x.setPreference(router, preference));
        } else if (kind < 15) {
            calls.append(" join(" + router + ")");
            check.due(calls.toString(), due.join(router), x.join(router));
        } else if (kind < 22) {
            calls.append(" leave(" + router + ")");
            check.due(calls.toString(), due.leave(router), x.leave(router));
        } else if (kind < 30) {
            int n = roll(0, 9) == 0 ? anyNumber(65) : roll(1, 5);
            calls.append(" tick(" + n + ")");
            due.tick(n);
            x.tick(n);
        } else if (kind < 45) {
            calls.append(" send(" + router + ")");
            check.due(calls.toString(), due.send(router), x.send(router));
        } else {
            sendTwice(x, due, calls, router);
        }
    }

    /** Mostly none of 0 to count - 1: the next ones, the extremes and others. */
    private static int anyNumber(int count) {
        int[] outside = Edges.outside(count);
        return roll(0, 4) == 0 ? roll(-1, count) : outside[roll(0, outside.length - 1)];
    }

    /** The last paragraph of promise 8: the second packet of a source goes nowhere twice. */
    private static void sendTwice(DenseCast x, Model due, StringBuilder calls, int source) {
        calls.append(" send(" + source + ")");
        int answer = x.send(source);
        check.due(calls.toString(), due.send(source), answer);
        int[] first = new int[due.routers];
        for (int router = 0; router < due.routers; router++) {
            first[router] = x.received(router);
        }
        calls.append(" send(" + source + ")");
        check.due(calls.toString(), due.send(source), x.send(source));
        if (answer < 0) {
            return;
        }
        for (int router = 0; router < due.routers; router++) {
            int second = x.received(router);
            boolean holds = second == 0 || second == 1 && first[router] >= 1;
            check.due(calls + ": received(" + router + ") as promised", true, holds);
        }
        for (int link = 0; link < due.links; link++) {
            boolean holds = x.carried(link) == 0 || x.carried(link) == 1;
            check.due(calls + ": carried(" + link + ") as promised", true, holds);
        }
    }
}
