/** Promise 1: the arguments are clamped, and a new object is empty. */
public final class ConstructionTest {
    private static final Check check = new Check();

    public static void main(String[] args) {
        clampsRouters();
        clampsLinks();
        clampsHold();
        startsEmpty();
        objectsAreApart();
        check.finish();
    }

    private static void clampsRouters() {
        int[] given = {Integer.MIN_VALUE, -1, 0, 1, 2, 3, 7, 11, 12, 13, Integer.MAX_VALUE};
        int[] due = {2, 2, 2, 2, 2, 3, 7, 11, 12, 12, 12};
        for (int i = 0; i < given.length; i++) {
            DenseCast x = new DenseCast(given[i], 3, 3);
            for (int router = -1; router <= 13; router++) {
                boolean isThere = router >= 0 && router < due[i];
                String call = "P1 routers " + given[i] + ": routerState(" + router + ")";
                check.due(call, isThere ? 0 : -1, x.routerState(router));
                check.due(call + " by attach", isThere, x.attach(0, router));
            }
        }
    }

    private static void clampsLinks() {
        int[] given = {Integer.MIN_VALUE, -1, 0, 1, 2, 9, 15, 16, 17, Integer.MAX_VALUE};
        int[] due = {1, 1, 1, 1, 2, 9, 15, 16, 16, 16};
        for (int i = 0; i < given.length; i++) {
            DenseCast x = new DenseCast(3, given[i], 3);
            for (int link = -1; link <= 17; link++) {
                boolean isThere = link >= 0 && link < due[i];
                String call = "P1 links " + given[i] + ": linkState(" + link + ")";
                check.due(call, isThere ? 1 : -1, x.linkState(link));
                check.due(call + " by attach", isThere, x.attach(link, 0));
            }
        }
    }

    private static void clampsHold() {
        int[] given = {Integer.MIN_VALUE, -1, 0, 1, 2, 8, 15, 16, 17, 64, Integer.MAX_VALUE};
        int[] due = {1, 1, 1, 1, 2, 8, 15, 16, 16, 16, 16};
        for (int i = 0; i < given.length; i++) {
            DenseCast x = Nets.line(2, given[i]);
            x.send(0);
            check.due("P1 pruneHold " + given[i] + ": pruneLeft(0, 0)", due[i], x.pruneLeft(0, 0));
        }
    }

    private static void startsEmpty() {
        DenseCast x = new DenseCast(12, 16, 16);
        for (int link = 0; link < 16; link++) {
            check.due("P1 linkState(" + link + ")", 1, x.linkState(link));
            check.due("P1 carried(" + link + ")", 0, x.carried(link));
        }
        for (int router = 0; router < 12; router++) {
            check.due("P1 routerState(" + router + ")", 0, x.routerState(router));
            check.due("P1 received(" + router + ")", 0, x.received(router));
        }
        for (int source = 0; source < 12; source++) {
            for (int link = 0; link < 16; link++) {
                check.due("P1 pruneLeft(" + source + ", " + link + ")", 0, x.pruneLeft(source, link));
                check.due("P1 forwarder(" + source + ", " + link + ")", -1, x.forwarder(source, link));
            }
            for (int router = 0; router < 12; router++) {
                int due = source == router ? 0 : -1;
                check.due("P1 distance(" + source + ", " + router + ")", due, x.distance(source, router));
                check.due("P1 rpfLink(" + source + ", " + router + ")", -1, x.rpfLink(source, router));
            }
        }
    }

    private static void objectsAreApart() {
        DenseCast x = new DenseCast(6, 5, 3);
        String before = View.all(x);
        Nets.busyDiamond(3);
        check.due("P1 state after work on another object", before, View.all(x));
    }
}
