/** Boundary cases of promise 4, each under the words of the document that name it. */
public final class CostEdgeTest {
    private static final Check check = new Check();
    private static final int[] TOO_SMALL = {0, -1, -2, -15, -16, -65536, Integer.MIN_VALUE + 1, Integer.MIN_VALUE};
    private static final int[] TOO_LARGE = {16, 17, 31, 32, 255, 256, 65537, Integer.MAX_VALUE - 1, Integer.MAX_VALUE};

    public static void main(String[] args) {
        check.sentence("P4: 0 <= link < L", CostEdgeTest::linkOutside);
        check.sentence("P4: 1 <= cost", CostEdgeTest::costTooSmall);
        check.sentence("P4: cost <= 15", CostEdgeTest::costTooLarge);
        check.sentence("P4: when a test fails (here both) it answers false and changes nothing",
            CostEdgeTest::bothOutside);
        check.sentence("P4: otherwise c(link) = cost: the least and the greatest", CostEdgeTest::leastAndGreatest);
        check.sentence("P4: then RESET, when the cost changes", CostEdgeTest::resetByChange);
        check.sentence("P4: then RESET (also when the cost is unchanged)", CostEdgeTest::resetWithoutChange);
        check.sentence("P4: then RESET, also by a link with no router or one", CostEdgeTest::resetByUnusableLink);
        check.sentence("P4: attachments, other costs, preferences and member flags do not change",
            CostEdgeTest::nothingElseChanges);
        check.finish();
    }

    private static void linkOutside() {
        for (Edges.Net net : Edges.nets()) {
            Edges.refuses(check, net, "setCost", DenseCast::setCost, net.noLinks(), 1, 7, 15);
        }
    }

    private static void costTooSmall() {
        for (Edges.Net net : Edges.nets()) {
            Edges.refuses(check, net, "setCost", DenseCast::setCost, net.endLinks(), TOO_SMALL);
        }
    }

    private static void costTooLarge() {
        for (Edges.Net net : Edges.nets()) {
            Edges.refuses(check, net, "setCost", DenseCast::setCost, net.endLinks(), TOO_LARGE);
        }
    }

    private static void bothOutside() {
        for (Edges.Net net : Edges.nets()) {
            Edges.refuses(check, net, "setCost", DenseCast::setCost, net.noLinks(), TOO_SMALL);
            Edges.refuses(check, net, "setCost", DenseCast::setCost, net.noLinks(), TOO_LARGE);
        }
    }

    private static void leastAndGreatest() {
        for (Edges.Net net : Edges.nets()) {
            for (int link : net.endLinks()) {
                int set = net.x().linkState(link) / 16;
                for (int cost : new int[] {1, 15, 14, 2, 15, 1}) {
                    String call = net.name() + "setCost(" + link + ", " + cost + ")";
                    check.due(call, true, net.x().setCost(link, cost));
                    check.due("linkState after " + call, cost + 16 * set, net.x().linkState(link));
                }
            }
        }
        DenseCast x = Edges.crowded(2, 1, 0).x();
        x.setCost(0, 15);
        check.due("distance(0, 1) over cost 15", 15, x.distance(0, 1));
        x.setCost(0, 1);
        check.due("distance(0, 1) over cost 1", 1, x.distance(0, 1));
    }

    private static void resetByChange() {
        for (int hub : new int[] {0, 15}) {
            for (int link = 0; link < 16; link++) {
                Edges.Net net = Edges.crowded(12, 16, hub, 2, 7);
                int k = link;
                int other = net.cost(link) == 15 ? 14 : 15;
                Edges.resets(check, net, "setCost(" + k + ", " + other + ")", () -> net.x().setCost(k, other));
            }
        }
    }

    private static void resetWithoutChange() {
        for (int hub : new int[] {0, 15}) {
            for (int link = 0; link < 16; link++) {
                Edges.Net net = Edges.crowded(12, 16, hub);
                int k = link;
                int same = net.cost(link);
                String settings = View.settings(net.x());
                Edges.resets(check, net, "setCost(" + k + ", " + same + ")", () -> net.x().setCost(k, same));
                check.due("settings after setCost(" + k + ", " + same + ")", settings, View.settings(net.x()));
            }
        }
        Edges.Net pair = Edges.crowded(2, 1, 0, 1);
        Edges.resets(check, pair, "setCost(0, 1), unchanged", () -> pair.x().setCost(0, 1));
    }

    private static void resetByUnusableLink() {
        for (int attached = 0; attached < 2; attached++) {
            for (int cost : new int[] {1, 15}) {
                Edges.Net net = new Edges.Net(new DenseCast(4, 3, 9), 4, 3);
                Nets.wire(net.x(), 0, 0, 1, 2, 3);
                if (attached == 1) {
                    Nets.wire(net.x(), 2, 3);
                }
                net.x().send(1);
                String call = "setCost(2, " + cost + ") with " + attached + " attached";
                Edges.resets(check, net, call, () -> net.x().setCost(2, cost));
            }
        }
    }

    private static void nothingElseChanges() {
        Edges.Net net = Edges.crowded(12, 16, 8, 0, 5, 11);
        check.due("settings before", Edges.crowdedSettings(12, 16, 8, 0, 5, 11), View.settings(net.x()));
        for (int link = 0; link < 16; link++) {
            for (int cost = 1; cost <= 15; cost++) {
                String before = Edges.settingsBut(net, link, -1);
                int set = net.x().linkState(link) / 16;
                check.due("setCost(" + link + ", " + cost + ")", true, net.x().setCost(link, cost));
                check.due("settings but of link " + link, before, Edges.settingsBut(net, link, -1));
                check.due("linkState(" + link + ")", cost + 16 * set, net.x().linkState(link));
            }
        }
    }
}
