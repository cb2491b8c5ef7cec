/** Boundary cases of promises 10 and 11 and of the term Routes, each under the words that name it. */
public final class RouteEdgeTest {
    private static final Check check = new Check();

    public static void main(String[] args) {
        check.sentence("P10: answers -1 unless 0 <= source < R", RouteEdgeTest::distanceOfNoSource);
        check.sentence("P10: answers -1 unless 0 <= router < R", RouteEdgeTest::distanceOfNoRouter);
        check.sentence("P10: -1 when router is unreachable from source", RouteEdgeTest::distanceOfUnreachable);
        check.sentence("P10: D(source, router), which is 0 when router == source", RouteEdgeTest::distanceOfItself);
        check.sentence("P10: it changes nothing", RouteEdgeTest::distanceChangesNothing);
        check.sentence("P11: answers -1 unless 0 <= source < R", RouteEdgeTest::reversePathOfNoSource);
        check.sentence("P11: answers -1 unless 0 <= router < R", RouteEdgeTest::reversePathOfNoRouter);
        check.sentence("P11: NONE (-1) for the source itself", RouteEdgeTest::reversePathOfItself);
        check.sentence("P11: NONE (-1) for routers unreachable from source", RouteEdgeTest::reversePathOfUnreachable);
        check.sentence("P11: it changes nothing", RouteEdgeTest::reversePathChangesNothing);
        check.sentence("Routes: neighbours through link k when k is usable", RouteEdgeTest::usableFromTwoOn);
        check.sentence("Routes: the least total cost of a chain: the longest one", RouteEdgeTest::longestChain);
        check.sentence("Routes: the least total cost of a chain: many cheap steps against one dear step",
            RouteEdgeTest::stepsAgainstCost);
        check.sentence("Routes: the lowest-numbered usable link k of equal ones", RouteEdgeTest::lowestNumber);
        check.sentence("Routes: some q in A(k), q != r, with D(s,q) + c(k) == D(s,r): not each cheap link",
            RouteEdgeTest::onlyLinksTowardTheSource);
        check.sentence("Routes: always taken from the current topology", RouteEdgeTest::currentTopology);
        check.finish();
    }

    private static void distanceOfNoSource() {
        for (Edges.Net net : Edges.nets()) {
            Edges.answersNone(check, net, "distance", DenseCast::distance, net.noRouters(), net.allRouters());
        }
    }

    private static void distanceOfNoRouter() {
        for (Edges.Net net : Edges.nets()) {
            Edges.answersNone(check, net, "distance", DenseCast::distance, net.allRouters(), net.noRouters());
            Edges.answersNone(check, net, "distance", DenseCast::distance, net.noRouters(), net.noRouters());
        }
    }

    private static void reversePathOfNoSource() {
        for (Edges.Net net : Edges.nets()) {
            Edges.answersNone(check, net, "rpfLink", DenseCast::rpfLink, net.noRouters(), net.allRouters());
        }
    }

    private static void reversePathOfNoRouter() {
        for (Edges.Net net : Edges.nets()) {
            Edges.answersNone(check, net, "rpfLink", DenseCast::rpfLink, net.allRouters(), net.noRouters());
            Edges.answersNone(check, net, "rpfLink", DenseCast::rpfLink, net.noRouters(), net.noRouters());
        }
    }

    /** Routers 0 to 4 on one side, 5 to 9 on the other, 10 alone on a link, 11 on no link. */
    private static DenseCast islands() {
        DenseCast x = new DenseCast(12, 4, 4);
        Nets.wire(x, 0, 0, 1, 2, 3, 4);
        Nets.wire(x, 1, 5, 6, 7);
        Nets.wire(x, 2, 7, 8, 9);
        Nets.wire(x, 3, 10);
        x.setCost(1, 15);
        return x;
    }

    private static int island(int router) {
        return router < 5 ? 0 : router < 10 ? 1 : router;
    }

    private static void distanceOfUnreachable() {
        DenseCast x = islands();
        for (int source = 0; source < 12; source++) {
            for (int router = 0; router < 12; router++) {
                boolean isReached = island(source) == island(router);
                String call = "distance(" + source + ", " + router + ")";
                check.due(call + " is -1", !isReached, x.distance(source, router) == -1);
            }
        }
        check.due("distance(5, 9)", 16, x.distance(5, 9));
    }

    private static void reversePathOfUnreachable() {
        DenseCast x = islands();
        for (int source = 0; source < 12; source++) {
            for (int router = 0; router < 12; router++) {
                boolean isReached = island(source) == island(router) && source != router;
                String call = "rpfLink(" + source + ", " + router + ")";
                check.due(call + " is -1", !isReached, x.rpfLink(source, router) == -1);
            }
        }
        check.due("rpfLink(5, 9)", 2, x.rpfLink(5, 9));
        check.due("rpfLink(9, 5)", 1, x.rpfLink(9, 5));
    }

    private static void distanceOfItself() {
        for (Edges.Net net : Edges.nets()) {
            for (int router = 0; router < net.routers(); router++) {
                String call = net.name() + "distance(" + router + ", " + router + ")";
                check.due(call, 0, net.x().distance(router, router));
            }
        }
        DenseCast apart = new DenseCast(12, 1, 1);
        check.due("distance(11, 11) of a router apart", 0, apart.distance(11, 11));
        check.due("distance(0, 0) of a router apart", 0, apart.distance(0, 0));
    }

    private static void reversePathOfItself() {
        for (Edges.Net net : Edges.nets()) {
            for (int router = 0; router < net.routers(); router++) {
                String call = net.name() + "rpfLink(" + router + ", " + router + ")";
                check.due(call, -1, net.x().rpfLink(router, router));
            }
        }
        DenseCast apart = new DenseCast(12, 1, 1);
        check.due("rpfLink(11, 11) of a router apart", -1, apart.rpfLink(11, 11));
    }

    private static void distanceChangesNothing() {
        Edges.changesNothing(check, "distance", DenseCast::distance);
    }

    private static void reversePathChangesNothing() {
        Edges.changesNothing(check, "rpfLink", DenseCast::rpfLink);
    }

    private static void usableFromTwoOn() {
        for (int routers : new int[] {2, 12}) {
            for (int link : new int[] {0, 15}) {
                DenseCast x = new DenseCast(routers, 16, 1);
                x.setCost(link, 15);
                for (int count = 0; count <= routers; count++) {
                    for (int router = 0; router < routers; router++) {
                        boolean isJoined = count >= 2 && router < count;
                        int distance = router == 0 ? 0 : isJoined ? 15 : -1;
                        String where = count + " of " + routers + " on link " + link;
                        check.due("distance(0, " + router + "), " + where, distance, x.distance(0, router));
                        int path = router != 0 && isJoined ? link : -1;
                        check.due("rpfLink(0, " + router + "), " + where, path, x.rpfLink(0, router));
                    }
                    x.attach(link, count);
                }
            }
        }
    }

    private static void longestChain() {
        for (int cost : new int[] {1, 15}) {
            DenseCast x = Nets.line(12, 1);
            for (int link = 0; link < 11; link++) {
                x.setCost(link, cost);
            }
            check.due("distance(0, 11) at cost " + cost, 11 * cost, x.distance(0, 11));
            check.due("distance(11, 0) at cost " + cost, 11 * cost, x.distance(11, 0));
            check.due("rpfLink(0, 11)", 10, x.rpfLink(0, 11));
            check.due("rpfLink(11, 0)", 0, x.rpfLink(11, 0));
        }
        DenseCast back = new DenseCast(12, 16, 1);
        for (int link = 0; link < 11; link++) {
            Nets.wire(back, 15 - link, link, link + 1);
            back.setCost(15 - link, 15);
        }
        check.due("distance(0, 11) over links in falling order", 165, back.distance(0, 11));
        check.due("distance(11, 0) over links in falling order", 165, back.distance(11, 0));
        check.due("rpfLink(0, 11) over links in falling order", 5, back.rpfLink(0, 11));
    }

    /** Round the ring of twelve, by way of all others, the last router is 11 away. */
    private static void stepsAgainstCost() {
        int[] costs = {10, 11, 12, 15, 1};
        int[] distances = {10, 11, 11, 11, 1};
        int[] paths = {11, 10, 10, 10, 11};
        for (int i = 0; i < costs.length; i++) {
            DenseCast x = Nets.ring(12, costs[i], 1);
            check.due("distance(0, 11), closed at " + costs[i], distances[i], x.distance(0, 11));
            check.due("rpfLink(0, 11), closed at " + costs[i], paths[i], x.rpfLink(0, 11));
        }
    }

    private static void lowestNumber() {
        DenseCast x = new DenseCast(2, 16, 1);
        for (int link = 0; link < 16; link++) {
            Nets.wire(x, link, 0, 1);
        }
        for (int link = 0; link < 16; link++) {
            check.due("rpfLink(0, 1)", link, x.rpfLink(0, 1));
            check.due("rpfLink(1, 0)", link, x.rpfLink(1, 0));
            check.due("detach(" + link + ", 0)", true, x.detach(link, 0));
        }
        check.due("rpfLink(0, 1) over links of one", -1, x.rpfLink(0, 1));
        DenseCast y = new DenseCast(3, 3, 1);
        Nets.wire(y, 0, 1);
        Nets.wire(y, 1, 1, 2);
        Nets.wire(y, 2, 0, 1);
        check.due("rpfLink(0, 1), lower links lead elsewhere", 2, y.rpfLink(0, 1));
    }

    /** Links 0 and 1 are cheap, but they join routers that are equally far or apart from source 0. */
    private static void onlyLinksTowardTheSource() {
        DenseCast x = new DenseCast(6, 4, 1);
        Nets.wire(x, 0, 1, 2);
        Nets.wire(x, 1, 4, 5);
        Nets.wire(x, 2, 0, 1, 2);
        Nets.wire(x, 3, 3, 2);
        x.setCost(2, 9);
        check.due("rpfLink(0, 1), equally far as 2", 2, x.rpfLink(0, 1));
        check.due("rpfLink(0, 2), equally far as 1", 2, x.rpfLink(0, 2));
        check.due("rpfLink(0, 3)", 3, x.rpfLink(0, 3));
        check.due("rpfLink(0, 4), apart like 5", -1, x.rpfLink(0, 4));
        check.due("rpfLink(0, 5), apart like 4", -1, x.rpfLink(0, 5));
        check.due("rpfLink(1, 2)", 0, x.rpfLink(1, 2));
    }

    private static void currentTopology() {
        DenseCast x = Nets.line(12, 4);
        for (int round = 0; round < 2; round++) {
            check.due("distance(0, 11)", 11, x.distance(0, 11));
            x.detach(10, 11);
            check.due("distance(0, 11) after detach", -1, x.distance(0, 11));
            check.due("rpfLink(0, 11) after detach", -1, x.rpfLink(0, 11));
            x.attach(0, 11);
            check.due("distance(0, 11) after attach", 1, x.distance(0, 11));
            check.due("rpfLink(0, 11) after attach", 0, x.rpfLink(0, 11));
            x.setCost(0, 15);
            check.due("distance(0, 11) after setCost", 15, x.distance(0, 11));
            check.due("distance(11, 0) after setCost", 15, x.distance(11, 0));
            x.setCost(0, 1);
            x.detach(0, 11);
            x.attach(10, 11);
        }
    }
}
