/** Promises 4 and 5: costs and preferences are set, each with a RESET, and wrong calls change nothing. */
public final class CostPreferenceTest {
    private static final Check check = new Check();

    public static void main(String[] args) {
        costIsSet();
        costResets(9, "393");
        costResets(7, "391");
        preferenceIsSet();
        preferenceResets(205, "461");
        preferenceResets(200, "456");
        check.finish();
    }

    private static void costIsSet() {
        DenseCast x = new DenseCast(3, 4, 4);
        Nets.wire(x, 2, 0, 2);
        for (int cost = 1; cost <= 15; cost++) {
            check.due("P4 setCost(2, " + cost + ")", true, x.setCost(2, cost));
            check.due("P4 linkState(2)", cost + 16 * 5, x.linkState(2));
            check.due("P4 distance(0, 2)", cost, x.distance(0, 2));
        }
        check.due("P4 setCost(3, 15) of an empty link", true, x.setCost(3, 15));
        check.due("P4 linkState(3)", 15, x.linkState(3));
        check.due("P4 linkState(1)", 1, x.linkState(1));
    }

    private static void costResets(int cost, String stateOfLink3) {
        DenseCast x = Nets.busyDiamond(4);
        check.due("P4 setCost(3, " + cost + ")", true, x.setCost(3, cost));
        String due = "links -1 49 81 225 " + stateOfLink3 + " 641 -1 -1 -1 -1 -1 -1 -1 -1 -1 -1 -1 -1\n"
            + "routers -1 256 0 0 0 456 0 -1 -1 -1 -1 -1 -1 -1\n";
        check.due("P4 settings after", due, View.settings(x));
        String state = View.prunes(x) + View.forwarders(x) + View.record(x);
        check.due("P4 state after setCost", Nets.freshProtocol(), state);
        check.due("P4 distance(0, 4)", 2 + cost, x.distance(0, 4));
    }

    private static void preferenceIsSet() {
        DenseCast x = new DenseCast(12, 1, 4);
        x.join(11);
        int[] values = {0, 1, 128, 254, 255, 0};
        for (int preference : values) {
            check.due("P5 setPreference(11, " + preference + ")", true, x.setPreference(11, preference));
            check.due("P5 routerState(11)", 256 + preference, x.routerState(11));
            check.due("P5 routerState(10)", 0, x.routerState(10));
        }
    }

    private static void preferenceResets(int preference, String stateOfRouter4) {
        DenseCast x = Nets.busyDiamond(4);
        String routes = View.routes(x);
        check.due("P5 setPreference(4, " + preference + ")", true, x.setPreference(4, preference));
        String due = "links -1 49 81 225 391 641 -1 -1 -1 -1 -1 -1 -1 -1 -1 -1 -1 -1\n"
            + "routers -1 256 0 0 0 " + stateOfRouter4 + " 0 -1 -1 -1 -1 -1 -1 -1\n";
        check.due("P5 settings after", due, View.settings(x));
        String state = View.prunes(x) + View.forwarders(x) + View.record(x);
        check.due("P5 state after setPreference", Nets.freshProtocol(), state);
        check.due("P5 routes after setPreference", routes, View.routes(x));
    }
}
