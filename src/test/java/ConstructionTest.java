/** Boundary cases of promise 1, each under the words of the document that name it. */
public final class ConstructionTest {
    private static final Check check = new Check();
    private static final int[] FAR_BELOW = {Integer.MIN_VALUE, Integer.MIN_VALUE + 1, -65536, -64, -16, -12, -2, -1};
    private static final int[] FAR_ABOVE = {18, 24, 32, 64, 256, 65536, Integer.MAX_VALUE - 1, Integer.MAX_VALUE};

    public static void main(String[] args) {
        check.sentence("P1: routers into 2..12; a value below the least becomes the least",
            ConstructionTest::routersBelow);
        check.sentence("P1: routers into 2..12; a value above the greatest becomes the greatest",
            ConstructionTest::routersAbove);
        check.sentence("P1: routers into 2..12; 2, 12 and what lies between stay", ConstructionTest::routersInside);
        check.sentence("P1: links into 1..16; a value below the least becomes the least",
            ConstructionTest::linksBelow);
        check.sentence("P1: links into 1..16; a value above the greatest becomes the greatest",
            ConstructionTest::linksAbove);
        check.sentence("P1: links into 1..16; 1, 16 and what lies between stay", ConstructionTest::linksInside);
        check.sentence("P1: pruneHold into 1..16; a value below the least becomes the least",
            ConstructionTest::holdBelow);
        check.sentence("P1: pruneHold into 1..16; a value above the greatest becomes the greatest",
            ConstructionTest::holdAbove);
        check.sentence("P1: pruneHold into 1..16; 1, 16 and what lies between stay", ConstructionTest::holdInside);
        check.sentence("P1: never fails; any int, including the most negative and most positive, is accepted",
            ConstructionTest::anyInts);
        check.sentence("P1: R, L and H, which never change afterwards", ConstructionTest::sizesStay);
        check.sentence("P1: every link has cost 1 and no attached routers", ConstructionTest::linksAtTheStart);
        check.sentence("P1: no link is usable, and every router other than s is unreachable from s",
            ConstructionTest::routesAtTheStart);
        check.sentence("P1: every preference is 0; no router is a member", ConstructionTest::routersAtTheStart);
        check.sentence("P1: every P(s,k) = 0, every F(s,k) = NONE, every rcv(r) = 0 and every car(k) = 0",
            ConstructionTest::protocolAtTheStart);
        check.sentence("P1: at the start, whatever was done with another object", ConstructionTest::objectsAreApart);
        check.finish();
    }

    /** All three sizes are looked at each time, so that one argument taken for another shows. */
    private static void sizes(DenseCast x, String made, int routers, int links, int hold) {
        for (int router = -1; router <= 17; router++) {
            boolean isThere = router >= 0 && router < routers;
            check.due(made + ": join(" + router + ")", isThere, x.join(router));
            check.due(made + ": routerState(" + router + ")", isThere ? 256 : -1, x.routerState(router));
            check.due(made + ": leave(" + router + ")", isThere, x.leave(router));
        }
        for (int link = -1; link <= 17; link++) {
            boolean isThere = link >= 0 && link < links;
            check.due(made + ": setCost(" + link + ", 15)", isThere, x.setCost(link, 15));
            check.due(made + ": linkState(" + link + ")", isThere ? 15 : -1, x.linkState(link) % 16);
        }
        check.due(made + ": attach(0, 0)", true, x.attach(0, 0));
        check.due(made + ": attach(0, 1)", true, x.attach(0, 1));
        check.due(made + ": send(0)", 0, x.send(0));
        check.due(made + ": pruneLeft(0, 0)", hold, x.pruneLeft(0, 0));
        x.detach(0, 0);
        x.detach(0, 1);
    }

    private static void made(int routers, int links, int hold, int dueRouters, int dueLinks, int dueHold) {
        String made = "new DenseCast(" + routers + ", " + links + ", " + hold + ")";
        sizes(new DenseCast(routers, links, hold), made, dueRouters, dueLinks, dueHold);
    }

    private static void routersBelow() {
        made(1, 3, 5, 2, 3, 5);
        made(0, 3, 5, 2, 3, 5);
        for (int routers : FAR_BELOW) {
            made(routers, 3, 5, 2, 3, 5);
        }
    }

    private static void routersAbove() {
        made(13, 3, 5, 12, 3, 5);
        made(14, 3, 5, 12, 3, 5);
        for (int routers : FAR_ABOVE) {
            made(routers, 3, 5, 12, 3, 5);
        }
    }

    private static void routersInside() {
        for (int routers = 2; routers <= 12; routers++) {
            made(routers, 3, 5, routers, 3, 5);
        }
    }

    private static void linksBelow() {
        made(4, 0, 5, 4, 1, 5);
        for (int links : FAR_BELOW) {
            made(4, links, 5, 4, 1, 5);
        }
    }

    private static void linksAbove() {
        made(4, 17, 5, 4, 16, 5);
        for (int links : FAR_ABOVE) {
            made(4, links, 5, 4, 16, 5);
        }
    }

    private static void linksInside() {
        for (int links = 1; links <= 16; links++) {
            made(4, links, 5, 4, links, 5);
        }
    }

    private static void holdBelow() {
        made(4, 3, 0, 4, 3, 1);
        for (int hold : FAR_BELOW) {
            made(4, 3, hold, 4, 3, 1);
        }
    }

    private static void holdAbove() {
        made(4, 3, 17, 4, 3, 16);
        for (int hold : FAR_ABOVE) {
            made(4, 3, hold, 4, 3, 16);
        }
    }

    private static void holdInside() {
        for (int hold = 1; hold <= 16; hold++) {
            made(4, 3, hold, 4, 3, hold);
        }
    }

    private static void anyInts() {
        for (int routers : Edges.EXTREMES) {
            for (int links : Edges.EXTREMES) {
                for (int hold : Edges.EXTREMES) {
                    made(routers, links, hold, routers > 12 ? 12 : 2, links > 16 ? 16 : 1, hold > 16 ? 16 : 1);
                }
            }
        }
    }

    private static void sizesStay() {
        int[][] sizes = {{2, 1, 1}, {5, 4, 3}, {12, 16, 16}};
        for (int[] size : sizes) {
            DenseCast x = new DenseCast(size[0], size[1], size[2]);
            String text = "after all kinds of calls on " + size[0] + ", " + size[1] + ", " + size[2];
            for (int i = -1; i <= 17; i++) {
                x.attach(i, i);
                x.attach(0, i);
                x.setCost(i, i);
                x.setPreference(i, i);
                x.join(i);
                x.send(i);
                x.tick(i);
                x.leave(i);
            }
            for (int i = -1; i <= 17; i++) {
                x.detach(i, i);
                x.detach(0, i);
                x.setPreference(i, 0);
            }
            sizes(x, text, size[0], size[1], size[2]);
        }
    }

    private static void linksAtTheStart() {
        for (int[] size : new int[][] {{2, 1}, {12, 16}}) {
            DenseCast x = new DenseCast(size[0], size[1], 4);
            for (int link = 0; link < size[1]; link++) {
                check.due("linkState(" + link + ") of " + size[1], 1, x.linkState(link));
                for (int router = 0; router < size[0]; router++) {
                    check.due("detach(" + link + ", " + router + ")", false, x.detach(link, router));
                }
            }
        }
    }

    private static void routesAtTheStart() {
        for (int[] size : new int[][] {{2, 1}, {12, 16}}) {
            DenseCast x = new DenseCast(size[0], size[1], 4);
            for (int source = 0; source < size[0]; source++) {
                for (int router = 0; router < size[0]; router++) {
                    String pair = "(" + source + ", " + router + ") of " + size[0];
                    check.due("distance" + pair, source == router ? 0 : -1, x.distance(source, router));
                    check.due("rpfLink" + pair, -1, x.rpfLink(source, router));
                }
                check.due("send(" + source + ")", 0, x.send(source));
                for (int link = 0; link < size[1]; link++) {
                    check.due("carried(" + link + ") after send(" + source + ")", 0, x.carried(link));
                }
            }
        }
    }

    private static void routersAtTheStart() {
        for (int routers : new int[] {2, 12}) {
            DenseCast x = new DenseCast(routers, 1, 4);
            for (int router = 0; router < routers; router++) {
                check.due("routerState(" + router + ") of " + routers, 0, x.routerState(router));
                check.due("leave(" + router + ") of " + routers, false, x.leave(router));
            }
        }
    }

    private static void protocolAtTheStart() {
        for (int[] size : new int[][] {{2, 1}, {12, 16}}) {
            DenseCast x = new DenseCast(size[0], size[1], 16);
            for (int source = 0; source < size[0]; source++) {
                check.due("received(" + source + ") of " + size[0], 0, x.received(source));
                for (int link = 0; link < size[1]; link++) {
                    String pair = "(" + source + ", " + link + ") of " + size[0] + ", " + size[1];
                    check.due("pruneLeft" + pair, 0, x.pruneLeft(source, link));
                    check.due("forwarder" + pair, -1, x.forwarder(source, link));
                    check.due("carried(" + link + ") of " + size[1], 0, x.carried(link));
                }
            }
        }
    }

    private static void objectsAreApart() {
        DenseCast x = new DenseCast(6, 5, 3);
        String before = View.all(x);
        Nets.busyDiamond(3);
        check.due("state after work on another object", before, View.all(x));
    }
}
