/** Boundary cases of promise 5, each under the words of the document that name it. */
public final class PreferenceEdgeTest {
    private static final Check check = new Check();
    private static final int[] TOO_SMALL = {-1, -2, -255, -256, -65536, Integer.MIN_VALUE + 1, Integer.MIN_VALUE};
    private static final int[] TOO_LARGE = {256, 257, 511, 512, 65536, Integer.MAX_VALUE - 1, Integer.MAX_VALUE};

    public static void main(String[] args) {
        check.sentence("P5: 0 <= router < R", PreferenceEdgeTest::routerOutside);
        check.sentence("P5: 0 <= preference", PreferenceEdgeTest::preferenceTooSmall);
        check.sentence("P5: preference <= 255", PreferenceEdgeTest::preferenceTooLarge);
        check.sentence("P5: when a test fails (here both) it answers false and changes nothing",
            PreferenceEdgeTest::bothOutside);
        check.sentence("P5: otherwise p(router) = preference: the least and the greatest",
            PreferenceEdgeTest::leastAndGreatest);
        check.sentence("P5: then RESET, when the preference changes", PreferenceEdgeTest::resetByChange);
        check.sentence("P5: then RESET (also when unchanged)", PreferenceEdgeTest::resetWithoutChange);
        check.sentence("P5: then RESET, also by a router with no link", PreferenceEdgeTest::resetByRouterApart);
        check.sentence("P5: a lower preference wins an assert: 0 and 255, and one apart",
            PreferenceEdgeTest::lowerWins);
        check.sentence("P5: costs, attachments, other preferences and member flags do not change",
            PreferenceEdgeTest::nothingElseChanges);
        check.finish();
    }

    private static void routerOutside() {
        for (Edges.Net net : Edges.nets()) {
            Edges.refuses(check, net, "setPreference", DenseCast::setPreference, net.noRouters(), 0, 7, 255);
        }
    }

    private static void preferenceTooSmall() {
        for (Edges.Net net : Edges.nets()) {
            Edges.refuses(check, net, "setPreference", DenseCast::setPreference, net.endRouters(), TOO_SMALL);
        }
    }

    private static void preferenceTooLarge() {
        for (Edges.Net net : Edges.nets()) {
            Edges.refuses(check, net, "setPreference", DenseCast::setPreference, net.endRouters(), TOO_LARGE);
        }
    }

    private static void bothOutside() {
        for (Edges.Net net : Edges.nets()) {
            Edges.refuses(check, net, "setPreference", DenseCast::setPreference, net.noRouters(), TOO_SMALL);
            Edges.refuses(check, net, "setPreference", DenseCast::setPreference, net.noRouters(), TOO_LARGE);
        }
    }

    private static void leastAndGreatest() {
        for (Edges.Net net : Edges.nets()) {
            for (int router : net.endRouters()) {
                int flag = net.x().routerState(router) / 256 * 256;
                for (int preference : new int[] {0, 255, 254, 1, 255, 0}) {
                    String call = net.name() + "setPreference(" + router + ", " + preference + ")";
                    check.due(call, true, net.x().setPreference(router, preference));
                    check.due("routerState after " + call, flag + preference, net.x().routerState(router));
                }
            }
        }
    }

    private static void resetByChange() {
        for (int hub : new int[] {0, 15}) {
            for (int router = 0; router < 12; router++) {
                Edges.Net net = Edges.crowded(12, 16, hub, 2, 7);
                int r = router;
                Edges.resets(check, net, "setPreference(" + r + ", 255)", () -> net.x().setPreference(r, 255));
            }
        }
    }

    private static void resetWithoutChange() {
        for (int hub : new int[] {0, 15}) {
            for (int router = 0; router < 12; router++) {
                Edges.Net net = Edges.crowded(12, 16, hub);
                int r = router;
                int same = net.x().routerState(router);
                String call = "setPreference(" + r + ", " + same + ")";
                String settings = View.settings(net.x());
                Edges.resets(check, net, call, () -> net.x().setPreference(r, same));
                check.due("settings after " + call, settings, View.settings(net.x()));
            }
        }
        Edges.Net net = new Edges.Net(Nets.line(2, 4), 2, 1);
        net.x().send(1);
        Edges.resets(check, net, "setPreference(0, 0), as at the start", () -> net.x().setPreference(0, 0));
    }

    private static void resetByRouterApart() {
        for (int preference : new int[] {0, 255}) {
            Edges.Net net = new Edges.Net(new DenseCast(4, 2, 9), 4, 2);
            Nets.wire(net.x(), 0, 0, 1, 2);
            net.x().send(1);
            String call = "setPreference(3, " + preference + ") of a router apart";
            Edges.resets(check, net, call, () -> net.x().setPreference(3, preference));
        }
    }

    /** Router 2 would win by its number: the two stand equally far from source 0 on link 2. */
    private static void lowerWins() {
        int[][] cases = {{0, 255, 1}, {255, 0, 2}, {254, 255, 1}, {255, 254, 2}, {0, 1, 1}, {1, 0, 2}, {127, 128, 1},
            {255, 255, 2}, {0, 0, 2}};
        for (int[] each : cases) {
            DenseCast x = Nets.diamond(3);
            x.setPreference(1, each[0]);
            x.setPreference(2, each[1]);
            x.send(0);
            String call = "forwarder(0, 2) of " + each[0] + " against " + each[1];
            check.due(call, each[2], x.forwarder(0, 2));
        }
    }

    private static void nothingElseChanges() {
        Edges.Net net = Edges.crowded(12, 16, 8, 0, 5, 11);
        check.due("settings before", Edges.crowdedSettings(12, 16, 8, 0, 5, 11), View.settings(net.x()));
        String routes = View.routes(net.x());
        for (int router = 0; router < 12; router++) {
            for (int preference : new int[] {0, 1, 128, 255}) {
                String before = Edges.settingsBut(net, -1, router);
                int flag = net.x().routerState(router) / 256 * 256;
                String call = "setPreference(" + router + ", " + preference + ")";
                check.due(call, true, net.x().setPreference(router, preference));
                check.due("settings but of router " + router, before, Edges.settingsBut(net, -1, router));
                check.due("routerState(" + router + ")", flag + preference, net.x().routerState(router));
            }
        }
        check.due("routes at the end", routes, View.routes(net.x()));
    }
}
