import java.util.List;
import java.util.Set;
import java.util.TreeSet;
import java.util.function.BooleanSupplier;
import java.util.function.IntSupplier;
import java.util.stream.IntStream;

/** What the tests of boundary cases share: sizes, networks that are full of state, and wrong numbers. */
final class Edges {
    static final int[] EXTREMES = {Integer.MIN_VALUE, Integer.MIN_VALUE + 1, -1, 0, 1, Integer.MAX_VALUE - 1,
        Integer.MAX_VALUE};

    private Edges() {
    }

    /** A network with its own numbers of routers and links. */
    record Net(DenseCast x, int routers, int links) {
        int[] allRouters() {
            return IntStream.range(0, routers).toArray();
        }

        int[] allLinks() {
            return IntStream.range(0, links).toArray();
        }

        /** The first and the last. */
        int[] endRouters() {
            return new int[] {0, routers - 1};
        }

        int[] endLinks() {
            return new int[] {0, links - 1};
        }

        int[] noRouters() {
            return outside(routers);
        }

        int[] noLinks() {
            return outside(links);
        }

        /** The routers that linkState tells to be on the link. */
        int[] attached(int link) {
            int set = x.linkState(link) / DenseCast.COST_SPAN;
            return IntStream.range(0, routers).filter(router -> (set >> router & 1) == 1).toArray();
        }

        int[] apart(int link) {
            int set = x.linkState(link) / DenseCast.COST_SPAN;
            return IntStream.range(0, routers).filter(router -> (set >> router & 1) == 0).toArray();
        }

        int cost(int link) {
            return x.linkState(link) % DenseCast.COST_SPAN;
        }

        String name() {
            return routers + " routers, " + links + " links: ";
        }
    }

    /**
     * Every router stands on the hub, a link of cost 1, which is thus everybody's reverse path. Each other link
     * is dearer and joins two routers, so that both transmit there: it gets a forwarder and a timer from every
     * source. The timers differ from source to source: 16 for the last one and one less for each one before it.
     */
    static Net crowded(int routers, int links, int hub, int... members) {
        DenseCast x = new DenseCast(routers, links, 16);
        for (int member : members) {
            x.join(member);
        }
        for (int router = 0; router < routers; router++) {
            x.setPreference(router, 5 + 20 * router);
            Nets.wire(x, hub, router);
        }
        for (int link = 0; link < links; link++) {
            if (link != hub) {
                x.setCost(link, 2 + link % 14);
                Nets.wire(x, link, link % routers, (link + 1) % routers);
            }
        }
        for (int source = 0; source < routers; source++) {
            x.tick(1);
            x.send(source);
        }
        return new Net(x, routers, links);
    }

    /** What View.settings tells of a crowded net, worked out without one. */
    static String crowdedSettings(int routers, int links, int hub, int... members) {
        StringBuilder text = new StringBuilder("links");
        for (int link = -1; link <= DenseCast.MAX_LINKS; link++) {
            int pair = 1 << (link + routers) % routers | 1 << (link + 1) % routers;
            int due = link == hub ? 1 + 16 * ((1 << routers) - 1) : 2 + link % 14 + 16 * pair;
            text.append(' ').append(link < 0 || link >= links ? -1 : due);
        }
        text.append("\nrouters");
        for (int router = -1; router <= DenseCast.MAX_ROUTERS; router++) {
            int number = router;
            boolean isMember = IntStream.of(members).anyMatch(member -> member == number);
            int due = 5 + 20 * router + (isMember ? 256 : 0);
            text.append(' ').append(router < 0 || router >= routers ? -1 : due);
        }
        return text.append('\n').toString();
    }

    /** The least and the greatest numbers of routers and links, and some between, each network full of state. */
    static List<Net> nets() {
        return List.of(crowded(2, 1, 0), crowded(2, 16, 7, 1), crowded(12, 1, 0, 0, 11), crowded(6, 5, 2, 0, 4),
            crowded(12, 16, 15, 3), crowded(12, 16, 0), crowded(11, 15, 8, 10));
    }

    /**
     * Ints that are not among 0..count-1: the next ones, the extremes, those that a shift or a product takes back
     * into the range, and those that count in the largest network only.
     */
    static int[] outside(int count) {
        int[] all = {Integer.MIN_VALUE, Integer.MIN_VALUE + 1, -(1 << 28), -256, -33, -32, -31, -16, -12, -2, -1,
            count, count + 1, 11, 12, 13, 15, 16, 17, 31, 32, 33, 64, 255, 256, 1 << 16, 1 << 28, (1 << 28) + 1,
            1 << 30, Integer.MAX_VALUE - 1, Integer.MAX_VALUE};
        Set<Integer> outside = new TreeSet<>();
        for (int value : all) {
            if (value < 0 || value >= count) {
                outside.add(value);
            }
        }
        return outside.stream().mapToInt(Integer::intValue).toArray();
    }

    /** A call that takes two numbers and answers whether it did something. */
    interface Change {
        boolean on(DenseCast x, int first, int second);
    }

    /** Each of the first numbers together with each of the second ones is refused, one call at a time. */
    static void refuses(Check check, Net net, String name, Change change, int[] firsts, int... seconds) {
        for (int first : firsts) {
            for (int second : seconds) {
                String call = name + "(" + first + ", " + second + ")";
                refused(check, net, call, () -> change.on(net.x(), first, second));
            }
        }
    }

    static void refused(Check check, Net net, String call, BooleanSupplier made) {
        String before = View.all(net.x());
        check.due(net.name() + call, false, made.getAsBoolean());
        check.due(net.name() + "state after " + call, before, View.all(net.x()));
    }

    static void refused(Check check, Net net, String call, IntSupplier made) {
        String before = View.all(net.x());
        check.due(net.name() + call, -1, made.getAsInt());
        check.due(net.name() + "state after " + call, before, View.all(net.x()));
    }

    /** A getter that takes two numbers. */
    interface Look {
        int at(DenseCast x, int first, int second);
    }

    /** Each of the first numbers together with each of the second ones is answered with -1. */
    static void answersNone(Check check, Net net, String name, Look look, int[] firsts, int... seconds) {
        for (int first : firsts) {
            for (int second : seconds) {
                String call = net.name() + name + "(" + first + ", " + second + ")";
                check.due(call, -1, look.at(net.x(), first, second));
            }
        }
    }

    private static final Look[] GETTERS = {DenseCast::distance, DenseCast::rpfLink, DenseCast::forwarder,
        DenseCast::pruneLeft, (x, first, second) -> x.received(first), (x, first, second) -> x.carried(first),
        (x, first, second) -> x.linkState(first), (x, first, second) -> x.routerState(first)};

    /**
     * Of two equal networks one is asked beforehand, for right and for wrong numbers, and then each getter by
     * itself tells the same of both: so a getter that spoils what another one tells is found out.
     */
    static void changesNothing(Check check, String name, Look asked) {
        for (int i = 0; i < GETTERS.length; i++) {
            for (int[] size : new int[][] {{2, 1, 0}, {6, 5, 2}, {12, 16, 8}}) {
                Net looked = crowded(size[0], size[1], size[2], 1);
                Net fresh = crowded(size[0], size[1], size[2], 1);
                answers(looked.x(), asked);
                String call = looked.name() + "getter " + i + " after " + name;
                check.due(call, answers(fresh.x(), GETTERS[i]), answers(looked.x(), GETTERS[i]));
            }
        }
    }

    private static String answers(DenseCast x, Look look) {
        StringBuilder text = new StringBuilder();
        for (int first = -2; first <= 18; first++) {
            for (int second = -2; second <= 18; second++) {
                text.append(look.at(x, first, second)).append(' ');
            }
        }
        return text.toString();
    }

    /** A call that is taken, and after which the protocol state and the packet record are those of a new object. */
    static void resets(Check check, Net net, String call, BooleanSupplier made) {
        DenseCast fresh = new DenseCast(net.routers(), net.links(), 1);
        check.due(net.name() + "state is there before " + call, false, protocol(fresh).equals(protocol(net.x())));
        check.due(net.name() + call, true, made.getAsBoolean());
        check.due(net.name() + "state after " + call, protocol(fresh), protocol(net.x()));
    }

    static String protocol(DenseCast x) {
        return View.prunes(x) + View.forwarders(x) + View.record(x);
    }

    /** The settings as text, taken apart link by link and router by router, to tell which one has changed. */
    static String settingsBut(Net net, int link, int router) {
        StringBuilder text = new StringBuilder();
        for (int k = 0; k < net.links(); k++) {
            text.append(k == link ? "*" : net.x().linkState(k)).append(' ');
        }
        for (int r = 0; r < net.routers(); r++) {
            text.append(r == router ? "*" : net.x().routerState(r)).append(' ');
        }
        return text.toString();
    }
}
