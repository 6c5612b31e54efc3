import java.util.ArrayList;
import java.util.Arrays;
import java.util.Comparator;
import java.util.List;

/**
 * The document's words, followed as literally as time allows and without pebbles: small sets of bars are judged by all
 * their parts, greater ones by matching bars to joints. It has the face of StiffFrames, to be asked the same calls.
 */
final class Oracle {
    /** Up to this many bars, all parts of a set are looked at. */
    private static final int LITERAL = 10;

    private static final class Bar {
        final int a;
        final int b;
        int cost;
        boolean there = true;

        Bar(int a, int b, int cost) {
            this.a = Math.min(a, b);
            this.b = Math.max(a, b);
            this.cost = cost;
        }
    }

    private int n;
    private final List<Bar> bars = new ArrayList<>();
    private final int[] refused = new int[7];
    /** Remembered until the next change; they are dear. */
    private List<int[]> clusterMemo;
    private int[] bundleMemo;
    private List<Integer> fewestMemo;
    private List<int[]> backMemo;
    private int[] spareMemo;

    // ---- free, rank, kept

    static boolean freeLiterally(List<Bar> set, int k, int l) {
        for (int part = 1; part < 1 << set.size(); part++) {
            int ends = 0;
            for (int i = 0; i < set.size(); i++) {
                if ((part >> i & 1) == 1) {
                    ends |= 1 << set.get(i).a | 1 << set.get(i).b;
                }
            }
            if (Integer.bitCount(part) > k * Integer.bitCount(ends) - l) {
                return false;
            }
        }
        return true;
    }

    /**
     * A part of m bars with n joints has m at most k n - l just if, with l copies of one of its bars more, each bar can
     * have a place of its own at one of its joints, of which each joint has k (by Hall).
     */
    static boolean freeByMatching(List<Bar> set, int k, int l) {
        for (Bar more : set) {
            if (!placesWith(set, more, k, l)) {
                return false;
            }
        }
        return true;
    }

    private static boolean placesWith(List<Bar> set, Bar more, int k, int l) {
        List<Bar> all = new ArrayList<>(set);
        for (int i = 0; i < l; i++) {
            all.add(more);
        }
        int[] holder = new int[24 * k];
        Arrays.fill(holder, -1);
        for (int i = 0; i < all.size(); i++) {
            if (!place(all, i, k, holder, new boolean[24])) {
                return false;
            }
        }
        return true;
    }

    private static boolean place(List<Bar> all, int i, int k, int[] holder, boolean[] tried) {
        for (int joint : new int[] {all.get(i).a, all.get(i).b}) {
            if (tried[joint]) {
                continue;
            }
            tried[joint] = true;
            for (int p = joint * k; p < joint * k + k; p++) {
                if (holder[p] < 0 || place(all, holder[p], k, holder, tried)) {
                    holder[p] = i;
                    return true;
                }
            }
        }
        return false;
    }

    private static List<Bar> greedy(List<Bar> row, int k, int l) {
        List<Bar> kept = new ArrayList<>();
        for (Bar bar : row) {
            kept.add(bar);
            boolean free = kept.size() <= LITERAL ? freeLiterally(kept, k, l) : placesWith(kept, bar, k, l);
            if (!free) {
                kept.remove(kept.size() - 1);
            }
        }
        return kept;
    }

    private static int rankOf(List<Bar> set, int k, int l) {
        if (set.size() > LITERAL) {
            return greedy(set, k, l).size();
        }
        int most = 0;
        for (int part = 0; part < 1 << set.size(); part++) {
            if (Integer.bitCount(part) <= most) {
                continue;
            }
            List<Bar> some = new ArrayList<>();
            for (int i = 0; i < set.size(); i++) {
                if ((part >> i & 1) == 1) {
                    some.add(set.get(i));
                }
            }
            if (freeLiterally(some, k, l)) {
                most = some.size();
            }
        }
        return most;
    }

    private static int rankOf(List<Bar> set) {
        return rankOf(set, 2, 3);
    }

    private static List<Bar> with(List<Bar> set, Bar bar) {
        List<Bar> more = new ArrayList<>(set);
        more.add(bar);
        return more;
    }

    private static List<Bar> without(List<Bar> set, Bar bar) {
        List<Bar> fewer = new ArrayList<>(set);
        fewer.remove(bar);
        return fewer;
    }

    private List<Bar> there() {
        List<Bar> list = new ArrayList<>();
        for (Bar bar : bars) {
            if (bar.there) {
                list.add(bar);
            }
        }
        return list;
    }

    private List<Bar> keptRow() {
        return greedy(there(), 2, 3);
    }

    private List<Bar> cheapRow() {
        List<Bar> row = there();
        row.sort(Comparator.comparingInt((Bar bar) -> bar.cost).thenComparingInt(bars::indexOf));
        return greedy(row, 2, 3);
    }

    private List<Bar> circuitOf(Bar left) {
        List<Bar> kept = keptRow();
        int rank = rankOf(kept);
        List<Bar> circuit = new ArrayList<>();
        for (Bar bar : kept) {
            if (rankOf(without(with(kept, left), bar)) == rank) {
                circuit.add(bar);
            }
        }
        return circuit;
    }

    private Bar between(int a, int b) {
        for (Bar bar : bars) {
            if (bar.a == Math.min(a, b) && bar.b == Math.max(a, b)) {
                return bar;
            }
        }
        return null;
    }

    // ---- clusters

    private List<int[]> allClusters() {
        if (clusterMemo == null) {
            boolean[][] as = new boolean[n][n];
            int rank = rankOf(there());
            for (int a = 0; a < n; a++) {
                for (int b = a + 1; b < n; b++) {
                    as[a][b] = rankOf(with(there(), new Bar(a, b, 0))) == rank;
                    as[b][a] = as[a][b];
                }
            }
            List<int[]> found = new ArrayList<>();
            greatest(as, 0, (1 << n) - 1, 0, found);
            found.sort(Arrays::compare);
            clusterMemo = found;
        }
        return clusterMemo;
    }

    /** Bron and Kerbosch: all greatest sets of joints that are pairwise as one. */
    private void greatest(boolean[][] as, int in, int may, int out, List<int[]> found) {
        if (may == 0 && out == 0) {
            if (Integer.bitCount(in) >= 2) {
                found.add(joints(in));
            }
            return;
        }
        for (int v : joints(may)) {
            int near = 0;
            for (int w = 0; w < n; w++) {
                near |= as[v][w] ? 1 << w : 0;
            }
            greatest(as, in | 1 << v, may & near, out & near, found);
            may &= ~(1 << v);
            out |= 1 << v;
        }
    }

    private static int[] joints(int set) {
        int[] list = new int[Integer.bitCount(set)];
        int at = 0;
        for (int v = 0; v < 32; v++) {
            if ((set >> v & 1) == 1) {
                list[at++] = v;
            }
        }
        return list;
    }

    private static boolean holds(int[] cluster, int joint) {
        return Arrays.binarySearch(cluster, joint) >= 0;
    }

    private boolean isHinge(int joint) {
        return allClusters().stream().filter(cluster -> holds(cluster, joint)).count() >= 2;
    }

    // ---- fewest, steps back, bundles

    private List<Integer> allFewest() {
        if (fewestMemo == null) {
            List<Integer> told = new ArrayList<>();
            List<Bar> now = keptRow();
            boolean more = true;
            while (more && 2 * n - now.size() > 3) {
                more = false;
                for (int a = 0; a < n && !more; a++) {
                    for (int b = a + 1; b < n && !more; b++) {
                        List<Bar> next = with(now, new Bar(a, b, 0));
                        if (between(a, b) == null && !told.contains(100 * a + b) && rankOf(next) > now.size()) {
                            told.add(100 * a + b);
                            now = next;
                            more = true;
                        }
                    }
                }
            }
            fewestMemo = told;
        }
        return fewestMemo;
    }

    private static List<Bar> at(List<Bar> set, int joint) {
        List<Bar> some = new ArrayList<>();
        for (Bar bar : set) {
            if (bar.a == joint || bar.b == joint) {
                some.add(bar);
            }
        }
        return some;
    }

    private List<int[]> allBack() {
        if (backMemo == null) {
            List<int[]> steps = new ArrayList<>();
            List<Bar> now = keptRow();
            List<Integer> stay = new ArrayList<>();
            for (int v = 0; v < n; v++) {
                stay.add(v);
            }
            while (!stay.isEmpty()) {
                Integer best = stay.get(0);
                for (Integer v : stay) {
                    if (at(now, v).size() < at(now, best).size()) {
                        best = v;
                    }
                }
                List<Bar> its = at(now, best);
                now.removeAll(its);
                stay.remove(best);
                int came = -9;
                if (its.size() == 3) {
                    Bar bridge = bridge(now, its, best);
                    came = 100 * bridge.a + bridge.b;
                    now.add(bridge);
                }
                steps.add(new int[] {best, its.size(), came});
            }
            backMemo = steps;
        }
        return backMemo;
    }

    private static Bar bridge(List<Bar> now, List<Bar> its, int joint) {
        int[] ends = its.stream().mapToInt(bar -> bar.a + bar.b - joint).sorted().toArray();
        for (int[] two : new int[][] {{0, 1}, {0, 2}, {1, 2}}) {
            Bar bridge = new Bar(ends[two[0]], ends[two[1]], 0);
            boolean none = now.stream().noneMatch(bar -> bar.a == bridge.a && bar.b == bridge.b);
            List<Bar> next = with(now, bridge);
            if (none && (next.size() <= LITERAL ? freeLiterally(next, 2, 3) : freeByMatching(next, 2, 3))) {
                return bridge;
            }
        }
        throw new IllegalStateException("a step 3 without a bar that comes");
    }

    /** For each bar, the number of its bundle, -9 if it is cut; behind them how many there are. */
    private int[] allBundles() {
        if (bundleMemo == null) {
            int m = bars.size();
            boolean[][] one = new boolean[m][m];
            List<Bar> kept = keptRow();
            for (Bar left : there()) {
                if (!kept.contains(left)) {
                    List<Bar> circuit = with(circuitOf(left), left);
                    for (Bar x : circuit) {
                        for (Bar y : circuit) {
                            one[bars.indexOf(x)][bars.indexOf(y)] = true;
                        }
                    }
                }
            }
            int[] numbers = new int[m + 1];
            Arrays.fill(numbers, -9);
            int next = 0;
            for (int i = 0; i < m; i++) {
                if (bars.get(i).there && numbers[i] == -9) {
                    spread(one, numbers, i, next++);
                }
            }
            numbers[m] = next;
            bundleMemo = numbers;
        }
        return bundleMemo;
    }

    private static void spread(boolean[][] one, int[] numbers, int from, int number) {
        numbers[from] = number;
        for (int i = 0; i < one.length; i++) {
            if (one[from][i] && numbers[i] == -9) {
                spread(one, numbers, i, number);
            }
        }
    }

    private boolean isSpare(int bar) {
        if (spareMemo == null) {
            spareMemo = new int[bars.size()];
            for (int i = 0; i < bars.size(); i++) {
                spareMemo[i] = rankOf(without(there(), bars.get(i))) == rankOf(there()) ? 1 : 0;
            }
        }
        return spareMemo[bar] == 1;
    }

    // ---- the face

    private void changed() {
        clusterMemo = null;
        bundleMemo = null;
        fewestMemo = null;
        backMemo = null;
        spareMemo = null;
    }

    private int refuse(int why) {
        refused[-why]++;
        return why;
    }

    private boolean noJoint(int joint) {
        return joint < 0 || joint >= n;
    }

    private boolean noBar(int bar) {
        return bar < 0 || bar >= bars.size();
    }

    private static int wrongCount(int k, int l) {
        if (k < 1 || l < 0) {
            return -4;
        }
        return k > 3 || l > 2 * k - 1 ? -6 : 0;
    }

    int joint() {
        if (n == 24) {
            return refuse(-6);
        }
        changed();
        return n++;
    }

    int bar(int a, int b, int cost) {
        if (noJoint(a) || noJoint(b) || a == b) {
            return refuse(-1);
        }
        if (between(a, b) != null) {
            return refuse(-3);
        }
        if (cost < 0) {
            return refuse(-4);
        }
        if (cost > 999 || bars.size() == 80) {
            return refuse(-6);
        }
        changed();
        bars.add(new Bar(a, b, cost));
        return bars.size() - 1;
    }

    int cut(int bar, boolean on) {
        if (noBar(bar)) {
            return refuse(-1);
        }
        boolean was = !bars.get(bar).there;
        if (was == on) {
            return 0;
        }
        changed();
        bars.get(bar).there = !on;
        return 1;
    }

    int cost(int bar, int v) {
        if (noBar(bar)) {
            return refuse(-1);
        }
        if (v < 0) {
            return refuse(-4);
        }
        if (v > 999) {
            return refuse(-6);
        }
        int was = bars.get(bar).cost;
        bars.get(bar).cost = v;
        return was;
    }

    int rank() {
        return rankOf(there());
    }

    int freedom() {
        return 2 * n - rank();
    }

    int stiff() {
        if (n == 0 || freedom() > 3) {
            return 0;
        }
        for (Bar bar : there()) {
            if (2 * n - rankOf(without(there(), bar)) > 3) {
                return 1;
            }
        }
        return 2;
    }

    int kept(int bar) {
        if (noBar(bar)) {
            return refuse(-1);
        }
        if (!bars.get(bar).there) {
            return -9;
        }
        return keptRow().contains(bars.get(bar)) ? 1 : 0;
    }

    int spare(int bar) {
        if (noBar(bar)) {
            return refuse(-1);
        }
        if (!bars.get(bar).there) {
            return -9;
        }
        return isSpare(bar) ? 1 : 0;
    }

    private boolean isLeft(int bar) {
        return bars.get(bar).there && !keptRow().contains(bars.get(bar));
    }

    int circuit(int bar) {
        if (noBar(bar)) {
            return refuse(-1);
        }
        return isLeft(bar) ? circuitOf(bars.get(bar)).size() : refuse(-3);
    }

    int circuitBar(int bar, int i) {
        if (noBar(bar)) {
            return refuse(-1);
        }
        if (!isLeft(bar)) {
            return refuse(-3);
        }
        int[] numbers = circuitOf(bars.get(bar)).stream().mapToInt(bars::indexOf).sorted().toArray();
        return i < 0 || i >= numbers.length ? -9 : numbers[i];
    }

    int grows(int a, int b) {
        if (noJoint(a) || noJoint(b) || a == b) {
            return refuse(-1);
        }
        return rankOf(with(there(), new Bar(a, b, 0))) > rankOf(there()) ? 1 : 0;
    }

    int clusters() {
        return allClusters().size();
    }

    int size(int i) {
        return i < 0 || i >= clusters() ? refuse(-1) : allClusters().get(i).length;
    }

    int member(int i, int k) {
        if (i < 0 || i >= clusters()) {
            return refuse(-1);
        }
        int[] cluster = allClusters().get(i);
        return k < 0 || k >= cluster.length ? -9 : cluster[k];
    }

    int together(int a, int b) {
        if (noJoint(a) || noJoint(b) || a == b) {
            return refuse(-1);
        }
        for (int i = 0; i < clusters(); i++) {
            if (holds(allClusters().get(i), a) && holds(allClusters().get(i), b)) {
                return i;
            }
        }
        return -9;
    }

    int hinge(int joint) {
        if (noJoint(joint)) {
            return refuse(-1);
        }
        return isHinge(joint) ? 1 : 0;
    }

    int pieces() {
        int[] piece = new int[n];
        for (int v = 0; v < n; v++) {
            piece[v] = v;
        }
        for (int round = 0; round < n; round++) {
            for (Bar bar : there()) {
                piece[bar.a] = Math.min(piece[bar.a], piece[bar.b]);
                piece[bar.b] = piece[bar.a];
            }
        }
        return (int) Arrays.stream(piece).distinct().count();
    }

    int cheapest() {
        return cheapRow().stream().mapToInt(bar -> bar.cost).sum();
    }

    int cheap(int bar) {
        if (noBar(bar)) {
            return refuse(-1);
        }
        if (!bars.get(bar).there) {
            return -9;
        }
        return cheapRow().contains(bars.get(bar)) ? 1 : 0;
    }

    int fewest() {
        return allFewest().size();
    }

    int fewestAt(int i) {
        return i < 0 || i >= fewest() ? -9 : allFewest().get(i);
    }

    int back(int i, int what) {
        if (what < 0 || what > 2) {
            return refuse(-2);
        }
        return i < 0 || i >= n ? -9 : allBack().get(i)[what];
    }

    int threes() {
        return (int) allBack().stream().filter(step -> step[1] == 3).count();
    }

    int bundles() {
        return allBundles()[bars.size()];
    }

    int bundle(int bar) {
        if (noBar(bar)) {
            return refuse(-1);
        }
        return allBundles()[bar];
    }

    int rankBy(int k, int l) {
        int wrong = wrongCount(k, l);
        return wrong != 0 ? refuse(wrong) : rankOf(there(), k, l);
    }

    int keptBy(int bar, int k, int l) {
        int wrong = noBar(bar) ? -1 : wrongCount(k, l);
        if (wrong != 0) {
            return refuse(wrong);
        }
        if (!bars.get(bar).there) {
            return -9;
        }
        return greedy(there(), k, l).contains(bars.get(bar)) ? 1 : 0;
    }

    private boolean fits(int k, int l) {
        return greedy(there(), k, l).size() == there().size();
    }

    int tight(int k, int l) {
        int wrong = wrongCount(k, l);
        if (wrong != 0) {
            return refuse(wrong);
        }
        boolean tight = n > 0 && rankOf(there(), k, l) == k * n - l;
        if (tight) {
            return fits(k, l) ? 3 : 2;
        }
        return fits(k, l) ? 1 : 0;
    }

    int forests() {
        for (int k = 1; k <= 3; k++) {
            if (fits(k, k)) {
                return k;
            }
        }
        return -9;
    }

    int barOf(int bar, int what) {
        if (noBar(bar)) {
            return refuse(-1);
        }
        Bar it = bars.get(bar);
        switch (what) {
            case 0: return it.a;
            case 1: return it.b;
            case 2: return it.cost;
            case 3: return it.there ? 1 : 0;
            default: return refuse(-2);
        }
    }

    int count(int what) {
        switch (what) {
            case 0: return n;
            case 1: return bars.size();
            case 2: return there().size();
            case 3: return keptRow().size();
            case 4: {
                int spares = 0;
                for (int i = 0; i < bars.size(); i++) {
                    spares += bars.get(i).there && isSpare(i) ? 1 : 0;
                }
                return spares;
            }
            case 5: {
                int hinges = 0;
                for (int v = 0; v < n; v++) {
                    hinges += isHinge(v) ? 1 : 0;
                }
                return hinges;
            }
            default: return what >= 11 && what <= 16 ? refused[what - 10] : -9;
        }
    }

    /** Whether the two ways to judge a set of bars agree on those that are there. */
    boolean judgesAgree(int k, int l) {
        return freeLiterally(there(), k, l) == freeByMatching(there(), k, l);
    }
}
