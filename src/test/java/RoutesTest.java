/** Promises 10 and 11: distances and reverse-path links follow the present topology. */
public final class RoutesTest {
    private static final Check check = new Check();

    public static void main(String[] args) {
        longestLine();
        longWayRoundIsCheaper();
        lanCostsOneStep();
        lowestOfEqualLinks();
        reversePathIsPerRouter();
        linkOfOneLeadsNowhere();
        followsEveryChange();
        check.finish();
    }

    private static void longestLine() {
        DenseCast x = Nets.line(12, 1);
        for (int link = 0; link < 11; link++) {
            x.setCost(link, 15);
        }
        for (int source = 0; source < 12; source++) {
            for (int router = 0; router < 12; router++) {
                int steps = source < router ? router - source : source - router;
                int link = source == router ? -1 : source < router ? router - 1 : router;
                String pair = "(" + source + ", " + router + ")";
                check.due("P10 distance" + pair, 15 * steps, x.distance(source, router));
                check.due("P11 rpfLink" + pair, link, x.rpfLink(source, router));
            }
        }
    }

    private static void longWayRoundIsCheaper() {
        DenseCast x = new DenseCast(4, 4, 1);
        Nets.wire(x, 0, 0, 3);
        Nets.wire(x, 1, 2, 3);
        Nets.wire(x, 2, 1, 2);
        Nets.wire(x, 3, 0, 1);
        x.setCost(0, 4);
        check.due("P10 distance(0, 3)", 3, x.distance(0, 3));
        check.due("P11 rpfLink(0, 3)", 1, x.rpfLink(0, 3));
        check.due("P11 rpfLink(3, 0)", 3, x.rpfLink(3, 0));
        x.setCost(0, 3);
        check.due("P10 distance(0, 3) of equal ways", 3, x.distance(0, 3));
        check.due("P11 rpfLink(0, 3) of equal ways", 0, x.rpfLink(0, 3));
        check.due("P11 rpfLink(3, 0) of equal ways", 0, x.rpfLink(3, 0));
    }

    private static void lanCostsOneStep() {
        DenseCast x = new DenseCast(12, 1, 1);
        Nets.wire(x, 0, 0, 1, 2, 3, 4, 5, 6, 7, 8, 9, 10, 11);
        x.setCost(0, 6);
        for (int router = 0; router < 12; router++) {
            check.due("P10 distance(4, " + router + ")", router == 4 ? 0 : 6, x.distance(4, router));
            check.due("P11 rpfLink(4, " + router + ")", router == 4 ? -1 : 0, x.rpfLink(4, router));
        }
    }

    private static void lowestOfEqualLinks() {
        DenseCast x = new DenseCast(2, 16, 1);
        for (int link = 15; link >= 0; link--) {
            Nets.wire(x, link, 0, 1);
            check.due("P11 rpfLink(0, 1)", link, x.rpfLink(0, 1));
        }
        x.setCost(0, 2);
        check.due("P11 rpfLink(0, 1), link 0 dearer", 1, x.rpfLink(0, 1));
        check.due("P10 distance(0, 1)", 1, x.distance(0, 1));
        for (int link = 1; link < 16; link++) {
            x.setCost(link, 3);
        }
        check.due("P11 rpfLink(0, 1), link 0 cheapest", 0, x.rpfLink(0, 1));
        check.due("P10 distance(0, 1)", 2, x.distance(0, 1));
    }

    /** Router 2 stands on link 0 too, but its cheapest chain does not go over it. */
    private static void reversePathIsPerRouter() {
        DenseCast x = new DenseCast(4, 3, 1);
        Nets.wire(x, 0, 1, 2, 3);
        Nets.wire(x, 1, 0, 1);
        Nets.wire(x, 2, 0, 2);
        x.setCost(1, 2);
        x.setCost(2, 3);
        check.due("P10 distance(0, 2)", 3, x.distance(0, 2));
        check.due("P11 rpfLink(0, 2)", 0, x.rpfLink(0, 2));
        check.due("P11 rpfLink(0, 1)", 1, x.rpfLink(0, 1));
        check.due("P11 rpfLink(0, 3)", 0, x.rpfLink(0, 3));
        x.setCost(2, 2);
        check.due("P11 rpfLink(0, 2), now nearer", 2, x.rpfLink(0, 2));
        check.due("P10 distance(0, 3)", 3, x.distance(0, 3));
    }

    private static void linkOfOneLeadsNowhere() {
        DenseCast x = new DenseCast(3, 2, 1);
        Nets.wire(x, 0, 0);
        Nets.wire(x, 1, 1, 2);
        check.due("P10 distance(0, 1)", -1, x.distance(0, 1));
        check.due("P11 rpfLink(0, 1)", -1, x.rpfLink(0, 1));
        check.due("P10 distance(0, 0)", 0, x.distance(0, 0));
        check.due("P11 rpfLink(0, 0)", -1, x.rpfLink(0, 0));
        check.due("P10 distance(2, 1)", 1, x.distance(2, 1));
        check.due("P11 rpfLink(2, 1)", 1, x.rpfLink(2, 1));
    }

    private static void followsEveryChange() {
        DenseCast x = Nets.diamond(3);
        check.due("P10 distance(0, 5)", 3, x.distance(0, 5));
        x.setCost(2, 9);
        check.due("P10 distance(0, 5) after setCost", 11, x.distance(0, 5));
        x.attach(1, 5);
        check.due("P10 distance(0, 5) after attach", 1, x.distance(0, 5));
        check.due("P11 rpfLink(0, 3) after attach", 4, x.rpfLink(0, 3));
        x.detach(1, 0);
        check.due("P10 distance(0, 5) after detach", 11, x.distance(0, 5));
        check.due("P11 rpfLink(0, 5) after detach", 1, x.rpfLink(0, 5));
        check.due("P11 rpfLink(0, 2) after detach", 2, x.rpfLink(0, 2));
        x.detach(0, 0);
        check.due("P10 distance(0, 5), 0 apart", -1, x.distance(0, 5));
        check.due("P11 rpfLink(0, 5), 0 apart", -1, x.rpfLink(0, 5));
    }
}
