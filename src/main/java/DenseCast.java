/** Dense-mode multicast for one group over a small network of routers and links. */
public final class DenseCast {
    public static final int NONE = -1;
    public static final int MIN_ROUTERS = 2;
    public static final int MAX_ROUTERS = 12;
    public static final int MIN_LINKS = 1;
    public static final int MAX_LINKS = 16;
    public static final int MIN_HOLD = 1;
    public static final int MAX_HOLD = 16;
    public static final int MIN_COST = 1;
    public static final int MAX_COST = 15;
    public static final int MAX_PREFERENCE = 255;
    public static final int MAX_TICK = 64;
    public static final int MEMBER_FLAG = 256;
    public static final int COST_SPAN = 16;

    private static final int ROUTER_PAIRS = MAX_ROUTERS * MAX_ROUTERS;
    private static final int SOURCE_LINKS = MAX_ROUTERS * MAX_LINKS;
    // Far above every finite distance (at most 11 steps of cost 15): no finite distance
    // with a link's cost added equals it, and it with a cost added equals no finite one.
    private static final int UNREACHABLE = 1000;

    private final int routerCount;
    private final int linkCount;
    private final int holdTime;

    // A set of routers is kept as an int with bit r set for router r.
    private final int[] attachedSet = new int[MAX_LINKS];
    private final int[] linkCost = new int[MAX_LINKS];
    private final int[] routePreference = new int[MAX_ROUTERS];
    private final boolean[] isMember = new boolean[MAX_ROUTERS];

    // Routes are worked out anew at each change of topology, so that getters only read.
    private final int[] routeDistance = new int[ROUTER_PAIRS];
    private final int[] reversePath = new int[ROUTER_PAIRS];

    private final int[] pruneTimer = new int[SOURCE_LINKS];
    private final int[] assertWinner = new int[SOURCE_LINKS];

    private final int[] receivedCopies = new int[MAX_ROUTERS];
    private final int[] carriedCopies = new int[MAX_LINKS];

    // These two serve one send only and mean nothing after it.
    private final int[] transmitterSet = new int[MAX_LINKS];
    private final int[] packetForwarder = new int[MAX_LINKS];

    public DenseCast(int routers, int links, int pruneHold) {
        routerCount = clamp(routers, MIN_ROUTERS, MAX_ROUTERS);
        linkCount = clamp(links, MIN_LINKS, MAX_LINKS);
        holdTime = clamp(pruneHold, MIN_HOLD, MAX_HOLD);
        for (int link = 0; link < linkCount; link++) {
            linkCost[link] = MIN_COST;
        }
        findRoutes();
        reset();
    }

    public boolean attach(int link, int router) {
        if (!isLink(link) || !isRouter(router) || contains(attachedSet[link], router)) {
            return false;
        }
        attachedSet[link] |= 1 << router;
        findRoutes();
        reset();
        return true;
    }

    public boolean detach(int link, int router) {
        if (!isLink(link) || !isRouter(router) || !contains(attachedSet[link], router)) {
            return false;
        }
        attachedSet[link] &= ~(1 << router);
        findRoutes();
        reset();
        return true;
    }

    public boolean setCost(int link, int cost) {
        if (!isLink(link) || cost < MIN_COST || cost > MAX_COST) {
            return false;
        }
        linkCost[link] = cost;
        findRoutes();
        reset();
        return true;
    }

    public boolean setPreference(int router, int preference) {
        if (!isRouter(router) || preference < 0 || preference > MAX_PREFERENCE) {
            return false;
        }
        routePreference[router] = preference;
        reset();
        return true;
    }

    public boolean join(int router) {
        if (!isRouter(router) || isMember[router]) {
            return false;
        }
        isMember[router] = true;
        for (int source = 0; source < routerCount; source++) {
            graftToward(source, router);
        }
        return true;
    }

    public boolean leave(int router) {
        if (!isRouter(router) || !isMember[router]) {
            return false;
        }
        isMember[router] = false;
        return true;
    }

    public int send(int source) {
        if (!isRouter(source)) {
            return -1;
        }
        clearPacketRecord();
        flood(source);
        electForwarders(source);
        int needed = neededSet(source);
        pruneUnwantedLinks(source, needed);
        return countReachedMembers();
    }

    public void tick(int n) {
        if (n < 1) {
            return;
        }
        int passed = n > MAX_TICK ? MAX_TICK : n;
        for (int source = 0; source < routerCount; source++) {
            for (int link = 0; link < linkCount; link++) {
                int at = source * MAX_LINKS + link;
                pruneTimer[at] = pruneTimer[at] > passed ? pruneTimer[at] - passed : 0;
            }
        }
    }

    public int distance(int source, int router) {
        if (!isRouter(source) || !isRouter(router)) {
            return -1;
        }
        int found = routeDistance[source * MAX_ROUTERS + router];
        return found == UNREACHABLE ? -1 : found;
    }

    public int rpfLink(int source, int router) {
        if (!isRouter(source) || !isRouter(router)) {
            return -1;
        }
        return reversePath[source * MAX_ROUTERS + router];
    }

    public int forwarder(int source, int link) {
        if (!isRouter(source) || !isLink(link)) {
            return -1;
        }
        return assertWinner[source * MAX_LINKS + link];
    }

    public int pruneLeft(int source, int link) {
        if (!isRouter(source) || !isLink(link)) {
            return -1;
        }
        return pruneTimer[source * MAX_LINKS + link];
    }

    public int received(int router) {
        return isRouter(router) ? receivedCopies[router] : -1;
    }

    public int carried(int link) {
        return isLink(link) ? carriedCopies[link] : -1;
    }

    public int linkState(int link) {
        return isLink(link) ? linkCost[link] + COST_SPAN * attachedSet[link] : -1;
    }

    public int routerState(int router) {
        if (!isRouter(router)) {
            return -1;
        }
        return routePreference[router] + (isMember[router] ? MEMBER_FLAG : 0);
    }

    private static int clamp(int value, int least, int greatest) {
        if (value < least) {
            return least;
        }
        return value > greatest ? greatest : value;
    }

    private static boolean contains(int routerSet, int router) {
        return (routerSet >> router & 1) == 1;
    }

    private static boolean hasTwoOrMore(int routerSet) {
        return (routerSet & (routerSet - 1)) != 0;
    }

    private boolean isLink(int link) {
        return link >= 0 && link < linkCount;
    }

    private boolean isRouter(int router) {
        return router >= 0 && router < routerCount;
    }

    private void reset() {
        for (int source = 0; source < routerCount; source++) {
            for (int link = 0; link < linkCount; link++) {
                pruneTimer[source * MAX_LINKS + link] = 0;
                assertWinner[source * MAX_LINKS + link] = NONE;
            }
        }
        clearPacketRecord();
    }

    private void clearPacketRecord() {
        for (int router = 0; router < routerCount; router++) {
            receivedCopies[router] = 0;
        }
        for (int link = 0; link < linkCount; link++) {
            carriedCopies[link] = 0;
            transmitterSet[link] = 0;
        }
    }

    private void findRoutes() {
        for (int source = 0; source < routerCount; source++) {
            findDistances(source);
            for (int router = 0; router < routerCount; router++) {
                reversePath[source * MAX_ROUTERS + router] = findReversePath(source, router);
            }
        }
    }

    private void findDistances(int source) {
        for (int router = 0; router < routerCount; router++) {
            routeDistance[source * MAX_ROUTERS + router] = router == source ? 0 : UNREACHABLE;
        }
        // A cheapest chain visits no router twice, so it has fewer steps than there are routers.
        for (int step = 1; step < routerCount; step++) {
            for (int link = 0; link < linkCount; link++) {
                shortenAcross(source, link);
            }
        }
    }

    private void shortenAcross(int source, int link) {
        int least = UNREACHABLE;
        for (int router = 0; router < routerCount; router++) {
            int known = routeDistance[source * MAX_ROUTERS + router];
            if (contains(attachedSet[link], router) && known < least) {
                least = known;
            }
        }
        int across = least + linkCost[link];
        for (int router = 0; router < routerCount; router++) {
            int at = source * MAX_ROUTERS + router;
            if (contains(attachedSet[link], router) && across < routeDistance[at]) {
                routeDistance[at] = across;
            }
        }
    }

    private int findReversePath(int source, int router) {
        for (int link = 0; link < linkCount; link++) {
            if (contains(attachedSet[link], router) && upstreamRouter(source, router, link) != NONE) {
                return link;
            }
        }
        return NONE;
    }

    /** The highest router on the link that is one step of a cheapest chain nearer to the source. */
    private int upstreamRouter(int source, int router, int link) {
        int nearer = routeDistance[source * MAX_ROUTERS + router] - linkCost[link];
        for (int other = routerCount - 1; other >= 0; other--) {
            int known = routeDistance[source * MAX_ROUTERS + other];
            if (other != router && contains(attachedSet[link], other) && known == nearer) {
                return other;
            }
        }
        return NONE;
    }

    private void graftToward(int source, int router) {
        int at = router;
        // The walk meets no router twice and ends at the source, so the bound cuts nothing off.
        for (int step = 0; step < routerCount && at != NONE; step++) {
            int link = reversePath[source * MAX_ROUTERS + at];
            if (link == NONE) {
                return;
            }
            pruneTimer[source * MAX_LINKS + link] = 0;
            int winner = assertWinner[source * MAX_LINKS + link];
            at = winner != NONE ? winner : upstreamRouter(source, at, link);
        }
    }

    private void flood(int source) {
        receivedCopies[source] = 1;
        int frontier = 1 << source;
        for (int round = 0; round < routerCount && frontier != 0; round++) {
            int before = reachedSet();
            for (int router = 0; router < routerCount; router++) {
                if (contains(frontier, router)) {
                    transmitFrom(source, router);
                }
            }
            frontier = reachedSet() & ~before;
        }
    }

    private int reachedSet() {
        int reached = 0;
        for (int router = 0; router < routerCount; router++) {
            if (receivedCopies[router] >= 1) {
                reached |= 1 << router;
            }
        }
        return reached;
    }

    private void transmitFrom(int source, int router) {
        for (int link = 0; link < linkCount; link++) {
            if (mayTransmit(source, router, link)) {
                carriedCopies[link]++;
                transmitterSet[link] |= 1 << router;
                deliver(source, link);
            }
        }
    }

    private boolean mayTransmit(int source, int router, int link) {
        int winner = assertWinner[source * MAX_LINKS + link];
        return hasTwoOrMore(attachedSet[link])
            && contains(attachedSet[link], router)
            && reversePath[source * MAX_ROUTERS + router] != link
            && pruneTimer[source * MAX_LINKS + link] == 0
            && (winner == NONE || winner == router);
    }

    // The transmitter needs no exception here: it never transmits on its own reverse-path link.
    private void deliver(int source, int link) {
        for (int router = 0; router < routerCount; router++) {
            if (reversePath[source * MAX_ROUTERS + router] == link) {
                receivedCopies[router]++;
            }
        }
    }

    private void electForwarders(int source) {
        for (int link = 0; link < linkCount; link++) {
            packetForwarder[link] = bestTransmitter(source, link);
            if (hasTwoOrMore(transmitterSet[link])) {
                assertWinner[source * MAX_LINKS + link] = packetForwarder[link];
            }
        }
    }

    private int bestTransmitter(int source, int link) {
        int best = NONE;
        for (int router = 0; router < routerCount; router++) {
            if (contains(transmitterSet[link], router)
                && (best == NONE || beatsLower(source, router, best))) {
                best = router;
            }
        }
        return best;
    }

    /** Whether the router wins an assert against a router of a lower number. */
    private boolean beatsLower(int source, int router, int lower) {
        if (routePreference[router] != routePreference[lower]) {
            return routePreference[router] < routePreference[lower];
        }
        int own = routeDistance[source * MAX_ROUTERS + router];
        return own <= routeDistance[source * MAX_ROUTERS + lower];
    }

    private int neededSet(int source) {
        int needed = 0;
        for (int router = 0; router < routerCount; router++) {
            if (router != source && isMember[router] && receivedCopies[router] >= 1) {
                needed |= 1 << router;
            }
        }
        // After a pass that adds no router none adds one, so as many passes as routers are enough.
        for (int pass = 0; pass < routerCount; pass++) {
            needed = withForwarders(source, needed);
        }
        return needed;
    }

    private int withForwarders(int source, int needed) {
        int grown = needed;
        for (int link = 0; link < linkCount; link++) {
            int router = packetForwarder[link];
            if (router != NONE && router != source && isWanted(source, link, needed)) {
                grown |= 1 << router;
            }
        }
        return grown;
    }

    private void pruneUnwantedLinks(int source, int needed) {
        for (int link = 0; link < linkCount; link++) {
            if (transmitterSet[link] != 0 && !isWanted(source, link, needed)) {
                pruneTimer[source * MAX_LINKS + link] = holdTime;
            }
        }
    }

    private boolean isWanted(int source, int link, int needed) {
        for (int router = 0; router < routerCount; router++) {
            if (contains(needed, router) && reversePath[source * MAX_ROUTERS + router] == link) {
                return true;
            }
        }
        return false;
    }

    private int countReachedMembers() {
        int count = 0;
        for (int router = 0; router < routerCount; router++) {
            if (isMember[router] && receivedCopies[router] >= 1) {
                count++;
            }
        }
        return count;
    }
}
