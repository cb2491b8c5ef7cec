import java.util.ArrayList;
import java.util.Collections;
import java.util.Comparator;
import java.util.List;
import java.util.Set;
import java.util.TreeSet;

/** The document's terms written down as they stand, slowly, with no table kept between calls. */
final class Model {
    private static final int NONE = -1;
    private static final int INFINITE = 1_000_000;

    final int routers;
    final int links;
    private final int hold;
    private final int[] cost;
    private final List<Set<Integer>> attached = new ArrayList<>();
    private final int[] preference;
    private final boolean[] member;
    private final int[][] prune;
    private final int[][] forwarder;
    private final int[] received;
    private final int[] carried;

    Model(int routers, int links, int hold) {
        this.routers = Math.max(2, Math.min(12, routers));
        this.links = Math.max(1, Math.min(16, links));
        this.hold = Math.max(1, Math.min(16, hold));
        cost = new int[this.links];
        preference = new int[this.routers];
        member = new boolean[this.routers];
        prune = new int[this.routers][this.links];
        forwarder = new int[this.routers][this.links];
        received = new int[this.routers];
        carried = new int[this.links];
        for (int k = 0; k < this.links; k++) {
            cost[k] = 1;
            attached.add(new TreeSet<>());
        }
        reset();
    }

    private boolean isRouter(int r) {
        return 0 <= r && r < routers;
    }

    private boolean isLink(int k) {
        return 0 <= k && k < links;
    }

    private void reset() {
        for (int s = 0; s < routers; s++) {
            for (int k = 0; k < links; k++) {
                prune[s][k] = 0;
                forwarder[s][k] = NONE;
            }
        }
        clearRecord();
    }

    private void clearRecord() {
        for (int r = 0; r < routers; r++) {
            received[r] = 0;
        }
        for (int k = 0; k < links; k++) {
            carried[k] = 0;
        }
    }

    boolean attach(int link, int router) {
        if (!isLink(link) || !isRouter(router) || !attached.get(link).add(router)) {
            return false;
        }
        reset();
        return true;
    }

    boolean detach(int link, int router) {
        if (!isLink(link) || !isRouter(router) || !attached.get(link).remove(router)) {
            return false;
        }
        reset();
        return true;
    }

    boolean setCost(int link, int value) {
        if (!isLink(link) || value < 1 || value > 15) {
            return false;
        }
        cost[link] = value;
        reset();
        return true;
    }

    boolean setPreference(int router, int value) {
        if (!isRouter(router) || value < 0 || value > 255) {
            return false;
        }
        preference[router] = value;
        reset();
        return true;
    }

    boolean join(int router) {
        if (!isRouter(router) || member[router]) {
            return false;
        }
        member[router] = true;
        for (int s = 0; s < routers; s++) {
            graft(s, router);
        }
        return true;
    }

    private void graft(int s, int router) {
        int[][] d = distances();
        int x = router;
        for (int i = 0; i < routers; i++) {
            if (x == s || d[s][x] == INFINITE) {
                return;
            }
            int k = reversePath(d, s, x);
            prune[s][k] = 0;
            if (forwarder[s][k] != NONE) {
                x = forwarder[s][k];
            } else {
                int best = NONE;
                for (int q : attached.get(k)) {
                    if (q != x && d[s][q] != INFINITE && d[s][q] + cost[k] == d[s][x]) {
                        best = Math.max(best, q);
                    }
                }
                x = best;
            }
        }
    }

    boolean leave(int router) {
        if (!isRouter(router) || !member[router]) {
            return false;
        }
        member[router] = false;
        return true;
    }

    int send(int s) {
        if (!isRouter(s)) {
            return -1;
        }
        int[][] d = distances();
        List<Set<Integer>> transmitters = flood(d, s);
        int[] inThisSend = new int[links];
        for (int k = 0; k < links; k++) {
            Set<Integer> t = transmitters.get(k);
            inThisSend[k] = t.isEmpty() ? NONE : t.iterator().next();
            if (t.size() >= 2) {
                Comparator<Integer> order = Comparator.comparing((Integer r) -> preference[r])
                    .thenComparing(r -> d[s][r])
                    .thenComparing(r -> -r);
                forwarder[s][k] = Collections.min(t, order);
                inThisSend[k] = forwarder[s][k];
            }
        }
        Set<Integer> needed = needed(d, s, inThisSend);
        for (int k = 0; k < links; k++) {
            if (!transmitters.get(k).isEmpty() && !hasReversePath(d, s, k, needed)) {
                prune[s][k] = hold;
            }
        }
        int count = 0;
        for (int r = 0; r < routers; r++) {
            count += member[r] && received[r] >= 1 ? 1 : 0;
        }
        return count;
    }

    private List<Set<Integer>> flood(int[][] d, int s) {
        clearRecord();
        List<Set<Integer>> transmitters = new ArrayList<>();
        for (int k = 0; k < links; k++) {
            transmitters.add(new TreeSet<>());
        }
        received[s] = 1;
        Set<Integer> frontier = Set.of(s);
        while (!frontier.isEmpty()) {
            int[] before = received.clone();
            for (int x : frontier) {
                for (int k = 0; k < links; k++) {
                    boolean goes = attached.get(k).size() >= 2 && attached.get(k).contains(x)
                        && k != reversePath(d, s, x) && prune[s][k] == 0
                        && (forwarder[s][k] == NONE || forwarder[s][k] == x);
                    if (!goes) {
                        continue;
                    }
                    carried[k]++;
                    transmitters.get(k).add(x);
                    for (int y : attached.get(k)) {
                        if (y != x && reversePath(d, s, y) == k) {
                            received[y]++;
                        }
                    }
                }
            }
            Set<Integer> next = new TreeSet<>();
            for (int y = 0; y < routers; y++) {
                if (before[y] == 0 && received[y] >= 1) {
                    next.add(y);
                }
            }
            frontier = next;
        }
        return transmitters;
    }

    private Set<Integer> needed(int[][] d, int s, int[] inThisSend) {
        Set<Integer> needed = new TreeSet<>();
        boolean grows = true;
        while (grows) {
            grows = false;
            for (int y = 0; y < routers; y++) {
                if (y == s || received[y] == 0) {
                    continue;
                }
                boolean isIn = member[y];
                for (int j = 0; j < links; j++) {
                    isIn |= inThisSend[j] == y && hasReversePath(d, s, j, needed);
                }
                grows |= isIn && needed.add(y);
            }
        }
        return needed;
    }

    private boolean hasReversePath(int[][] d, int s, int k, Set<Integer> of) {
        for (int z : of) {
            if (reversePath(d, s, z) == k) {
                return true;
            }
        }
        return false;
    }

    void tick(int n) {
        if (n < 1) {
            return;
        }
        for (int[] ofSource : prune) {
            for (int k = 0; k < links; k++) {
                ofSource[k] = Math.max(0, ofSource[k] - Math.min(64, n));
            }
        }
    }

    private int[][] distances() {
        int[][] d = new int[routers][routers];
        for (int x = 0; x < routers; x++) {
            for (int y = 0; y < routers; y++) {
                d[x][y] = x == y ? 0 : INFINITE;
            }
        }
        for (int k = 0; k < links; k++) {
            for (int x : attached.get(k)) {
                for (int y : attached.get(k)) {
                    if (x != y) {
                        d[x][y] = Math.min(d[x][y], cost[k]);
                    }
                }
            }
        }
        for (int via = 0; via < routers; via++) {
            for (int x = 0; x < routers; x++) {
                for (int y = 0; y < routers; y++) {
                    d[x][y] = Math.min(d[x][y], d[x][via] + d[via][y]);
                }
            }
        }
        return d;
    }

    private int reversePath(int[][] d, int s, int r) {
        if (r == s || d[s][r] == INFINITE) {
            return NONE;
        }
        for (int k = 0; k < links; k++) {
            if (attached.get(k).size() < 2 || !attached.get(k).contains(r)) {
                continue;
            }
            for (int q : attached.get(k)) {
                if (q != r && d[s][q] != INFINITE && d[s][q] + cost[k] == d[s][r]) {
                    return k;
                }
            }
        }
        throw new IllegalStateException("the document says that such a link always exists");
    }

    /** The same text that View.all makes of a DenseCast. */
    String view() {
        StringBuilder text = new StringBuilder("links");
        for (int k = -1; k <= 16; k++) {
            int set = 0;
            for (int r : isLink(k) ? attached.get(k) : Set.<Integer>of()) {
                set += 1 << r;
            }
            text.append(' ').append(isLink(k) ? cost[k] + 16 * set : -1);
        }
        text.append("\nrouters");
        for (int r = -1; r <= 12; r++) {
            text.append(' ').append(isRouter(r) ? preference[r] + (member[r] ? 256 : 0) : -1);
        }
        text.append('\n');
        viewRoutes(text);
        viewProtocol(text, "prunes ", prune);
        viewProtocol(text, "forwarders ", forwarder);
        text.append("received");
        for (int r = -1; r <= 12; r++) {
            text.append(' ').append(isRouter(r) ? received[r] : -1);
        }
        text.append("\ncarried");
        for (int k = -1; k <= 16; k++) {
            text.append(' ').append(isLink(k) ? carried[k] : -1);
        }
        return text.append('\n').toString();
    }

    private void viewRoutes(StringBuilder text) {
        int[][] d = distances();
        for (int s = -1; s <= 12; s++) {
            text.append("routes ").append(s).append(':');
            for (int r = -1; r <= 12; r++) {
                boolean isPair = isRouter(s) && isRouter(r);
                text.append(' ').append(isPair && d[s][r] != INFINITE ? d[s][r] : -1);
                text.append('/').append(isPair ? reversePath(d, s, r) : -1);
            }
            text.append('\n');
        }
    }

    private void viewProtocol(StringBuilder text, String name, int[][] values) {
        for (int s = -1; s <= 12; s++) {
            text.append(name).append(s).append(':');
            for (int k = -1; k <= 16; k++) {
                text.append(' ').append(isRouter(s) && isLink(k) ? values[s][k] : -1);
            }
            text.append('\n');
        }
    }
}
