import java.util.Arrays;

/**
 * Stiff frames: joints in the plane and bars between them, judged by counting alone.
 *
 * A set of joints is an int here, bit j for joint j: there are 24 of them at most.
 */
public final class StiffFrames {
    private static final int NOBODY = -1;
    private static final int OTHER = -2;
    private static final int STATE = -3;
    private static final int BELOW = -4;
    private static final int ROOM = -6;
    private static final int NONE = -9;

    private static final int MOST_JOINTS = 24;
    private static final int MOST_BARS = 80;
    private static final int MOST_PAIRS = 276;
    private static final int MOST_COST = 999;
    private static final int MOST_K = 3;
    private static final int PLANE_K = 2;
    private static final int PLANE_L = 3;
    private static final int PAIR_SCALE = 100;
    private static final int FIRST_REFUSAL = 11;
    private static final int LAST_REFUSAL = 16;

    private final Frame frame;
    private final Row row;
    private final Row cheapRow;
    private final Row otherRow;
    private final Clusters sets;
    private final Bundles heaps;
    private final Missing missing;
    private final Steps steps;
    private final int[] refused;

    public StiffFrames() {
        frame = new Frame();
        row = new Row(frame, false);
        cheapRow = new Row(frame, true);
        otherRow = new Row(frame, false);
        sets = new Clusters(frame, row);
        heaps = new Bundles(frame, row);
        // These two play games of their own that end before the call does, so one board serves both.
        Pebbles board = new Pebbles();
        missing = new Missing(frame, row, board);
        steps = new Steps(frame, row, board);
        refused = new int[LAST_REFUSAL - FIRST_REFUSAL + 1];
    }

    public int joint() {
        return frame.joints >= MOST_JOINTS ? refuse(ROOM) : frame.addJoint();
    }

    public int bar(int a, int b, int cost) {
        if (noPair(a, b)) {
            return refuse(NOBODY);
        }
        if (frame.tied(a, b)) {
            return refuse(STATE);
        }
        if (cost < 0) {
            return refuse(BELOW);
        }
        if (cost > MOST_COST || frame.bars >= MOST_BARS) {
            return refuse(ROOM);
        }
        return frame.addBar(Math.min(a, b), Math.max(a, b), cost);
    }

    public int cut(int bar, boolean on) {
        if (noBar(bar)) {
            return refuse(NOBODY);
        }
        return frame.setThere(bar, !on) ? 1 : 0;
    }

    public int cost(int bar, int v) {
        if (noBar(bar)) {
            return refuse(NOBODY);
        }
        if (v < 0) {
            return refuse(BELOW);
        }
        if (v > MOST_COST) {
            return refuse(ROOM);
        }
        return frame.setCost(bar, v);
    }

    public int rank() {
        row.play(PLANE_K, PLANE_L);
        return row.size;
    }

    public int freedom() {
        row.play(PLANE_K, PLANE_L);
        return 2 * frame.joints - row.size;
    }

    public int stiff() {
        row.play(PLANE_K, PLANE_L);
        if (frame.joints == 0 || 2 * frame.joints - row.size > PLANE_L) {
            return 0;
        }
        return row.countSpare() == frame.thereNow ? 2 : 1;
    }

    public int kept(int bar) {
        if (noBar(bar)) {
            return refuse(NOBODY);
        }
        row.play(PLANE_K, PLANE_L);
        return keptIn(row, bar);
    }

    public int spare(int bar) {
        if (noBar(bar)) {
            return refuse(NOBODY);
        }
        if (!frame.there[bar]) {
            return NONE;
        }
        row.play(PLANE_K, PLANE_L);
        return row.isSpare(bar) ? 1 : 0;
    }

    public int circuit(int bar) {
        if (noBar(bar)) {
            return refuse(NOBODY);
        }
        row.play(PLANE_K, PLANE_L);
        return row.isLeft(bar) ? row.circuitLength(bar) : refuse(STATE);
    }

    public int circuitBar(int bar, int i) {
        if (noBar(bar)) {
            return refuse(NOBODY);
        }
        row.play(PLANE_K, PLANE_L);
        return row.isLeft(bar) ? row.circuitAt(bar, i) : refuse(STATE);
    }

    public int grows(int a, int b) {
        if (noPair(a, b)) {
            return refuse(NOBODY);
        }
        row.play(PLANE_K, PLANE_L);
        return row.pebbles.allows(a, b) ? 1 : 0;
    }

    public int clusters() {
        sets.find();
        return sets.size;
    }

    public int size(int i) {
        sets.find();
        return noCluster(i) ? refuse(NOBODY) : Integer.bitCount(sets.joints[i]);
    }

    public int member(int i, int k) {
        sets.find();
        return noCluster(i) ? refuse(NOBODY) : jointAt(sets.joints[i], k);
    }

    public int together(int a, int b) {
        if (noPair(a, b)) {
            return refuse(NOBODY);
        }
        sets.find();
        return sets.firstWith(a, b);
    }

    public int hinge(int joint) {
        if (noJoint(joint)) {
            return refuse(NOBODY);
        }
        sets.find();
        return sets.isHinge(joint) ? 1 : 0;
    }

    public int pieces() {
        // A greatest forest has one bar less than joints in each piece.
        otherRow.play(1, 1);
        return frame.joints - otherRow.size;
    }

    public int cheapest() {
        cheapRow.play(PLANE_K, PLANE_L);
        return cheapRow.costOfKept();
    }

    public int cheap(int bar) {
        if (noBar(bar)) {
            return refuse(NOBODY);
        }
        cheapRow.play(PLANE_K, PLANE_L);
        return keptIn(cheapRow, bar);
    }

    public int fewest() {
        missing.find();
        return missing.size;
    }

    public int fewestAt(int i) {
        missing.find();
        return i < 0 || i >= missing.size ? NONE : missing.pairs[i];
    }

    public int back(int i, int what) {
        if (what < 0 || what > 2) {
            return refuse(OTHER);
        }
        if (noJoint(i)) {
            return NONE;
        }
        steps.walk();
        if (what == 0) {
            return steps.gone[i];
        }
        return what == 1 ? steps.kinds[i] : steps.comes[i];
    }

    public int threes() {
        steps.walk();
        return steps.countThrees();
    }

    public int bundles() {
        heaps.find();
        return heaps.size;
    }

    public int bundle(int bar) {
        if (noBar(bar)) {
            return refuse(NOBODY);
        }
        if (!frame.there[bar]) {
            return NONE;
        }
        heaps.find();
        return heaps.numberOf(bar);
    }

    public int rankBy(int k, int l) {
        int wrong = wrongCount(k, l);
        if (wrong != 0) {
            return refuse(wrong);
        }
        otherRow.play(k, l);
        return otherRow.size;
    }

    public int keptBy(int bar, int k, int l) {
        int wrong = noBar(bar) ? NOBODY : wrongCount(k, l);
        if (wrong != 0) {
            return refuse(wrong);
        }
        otherRow.play(k, l);
        return keptIn(otherRow, bar);
    }

    public int tight(int k, int l) {
        int wrong = wrongCount(k, l);
        if (wrong != 0) {
            return refuse(wrong);
        }
        otherRow.play(k, l);
        boolean full = frame.joints > 0 && otherRow.size == k * frame.joints - l;
        boolean fits = otherRow.size == frame.thereNow;
        return (full ? 2 : 0) + (fits ? 1 : 0);
    }

    public int forests() {
        for (int k = 1; k <= MOST_K; k++) {
            otherRow.play(k, k);
            if (otherRow.size == frame.thereNow) {
                return k;
            }
        }
        return NONE;
    }

    public int barOf(int bar, int what) {
        if (noBar(bar)) {
            return refuse(NOBODY);
        }
        switch (what) {
            case 0:
                return frame.lesser[bar];
            case 1:
                return frame.greater[bar];
            case 2:
                return frame.costs[bar];
            case 3:
                return frame.there[bar] ? 1 : 0;
            default:
                return refuse(OTHER);
        }
    }

    public int count(int what) {
        if (what >= FIRST_REFUSAL && what <= LAST_REFUSAL) {
            return refused[what - FIRST_REFUSAL];
        }
        switch (what) {
            case 0:
                return frame.joints;
            case 1:
                return frame.bars;
            case 2:
                return frame.thereNow;
            case 3:
                return rank();
            case 4:
                row.play(PLANE_K, PLANE_L);
                return row.countSpare();
            case 5:
                sets.find();
                return sets.countHinges();
            default:
                return NONE;
        }
    }

    private int refuse(int why) {
        int at = -why - 1;
        if (at >= 0 && at < refused.length) {
            refused[at]++;
        }
        return why;
    }

    private boolean noJoint(int joint) {
        return joint < 0 || joint >= frame.joints;
    }

    private boolean noPair(int a, int b) {
        return noJoint(a) || noJoint(b) || a == b;
    }

    private boolean noBar(int bar) {
        return bar < 0 || bar >= frame.bars;
    }

    private boolean noCluster(int i) {
        return i < 0 || i >= sets.size;
    }

    private int keptIn(Row played, int bar) {
        if (!frame.there[bar]) {
            return NONE;
        }
        return played.kept[bar] ? 1 : 0;
    }

    private static int wrongCount(int k, int l) {
        if (k < 1 || l < 0) {
            return BELOW;
        }
        return k > MOST_K || l > 2 * k - 1 ? ROOM : 0;
    }

    private static boolean has(int set, int joint) {
        return (set >> joint & 1) == 1;
    }

    private static int jointAt(int set, int i) {
        int before = 0;
        for (int v = 0; v < MOST_JOINTS; v++) {
            if (has(set, v)) {
                if (before == i) {
                    return v;
                }
                before++;
            }
        }
        return NONE;
    }

    /** The joints and bars themselves: all that the object knows; the other classes only look at it. */
    private static final class Frame {
        final int[] lesser = new int[MOST_BARS];
        final int[] greater = new int[MOST_BARS];
        final int[] costs = new int[MOST_BARS];
        final boolean[] there = new boolean[MOST_BARS];
        /** For each joint, those to which a bar leads, there or cut. */
        private final int[] ties = new int[MOST_JOINTS];
        int joints;
        int bars;
        int thereNow;
        /** Grows with each change, so that who looked before can tell whether it must look again. */
        int changes;

        int addJoint() {
            changes++;
            return joints++;
        }

        int addBar(int less, int more, int price) {
            int number = bars;
            lesser[number] = less;
            greater[number] = more;
            costs[number] = price;
            there[number] = true;
            ties[less] |= 1 << more;
            ties[more] |= 1 << less;
            bars++;
            thereNow++;
            changes++;
            return number;
        }

        boolean setThere(int number, boolean on) {
            if (there[number] == on) {
                return false;
            }
            there[number] = on;
            thereNow += on ? 1 : -1;
            changes++;
            return true;
        }

        int setCost(int number, int price) {
            int was = costs[number];
            costs[number] = price;
            changes++;
            return was;
        }

        boolean tied(int a, int b) {
            return has(ties[a], b);
        }

        boolean within(int number, int set) {
            return has(set, lesser[number]) && has(set, greater[number]);
        }
    }

    /**
     * The pebble game by K, L: each joint has K pebbles, each of them loose or on a bar at that joint.
     * A bar may come if L + 1 loose pebbles can be brought to its two ends.
     */
    private static final class Pebbles {
        private static final int LOOSE = -1;

        /** A joint's pebbles stand side by side; one on a bar tells the bar's other end. */
        private final int[] leads = new int[MOST_JOINTS * MOST_K];
        private final int[] cameBy = new int[MOST_JOINTS];
        private final int[] queue = new int[MOST_JOINTS];
        private int k;
        private int l;

        void start(int newK, int newL) {
            k = newK;
            l = newL;
            Arrays.fill(leads, LOOSE);
        }

        boolean put(int a, int b) {
            if (!allows(a, b)) {
                return false;
            }
            int ofA = loosePebble(a);
            int ofB = loosePebble(b);
            if (ofA >= 0) {
                leads[ofA] = b;
            } else if (ofB >= 0) {
                leads[ofB] = a;
            }
            return true;
        }

        /** Pebbles move, but which bars may come stays as it was: so any pair may be asked at any time. */
        boolean allows(int a, int b) {
            int have = countLoose(a) + countLoose(b);
            for (int i = 0; i < 2 * MOST_K && have <= l; i++) {
                if (!fetch(a, b) && !fetch(b, a)) {
                    return false;
                }
                have++;
            }
            return have > l;
        }

        /**
         * The joints to which pebbles lead from a and b. Right after allows(a, b) was false these are the least
         * set of joints that holds both and as many bars as it can: no pebble leads out of such a set, as
         * its only loose ones are the L at a and b.
         */
        int reach(int a, int b) {
            int seen = 1 << a | 1 << b;
            for (int round = 0; round < MOST_JOINTS; round++) {
                int more = seen;
                for (int v = 0; v < MOST_JOINTS; v++) {
                    if (has(seen, v)) {
                        more |= ledTo(v);
                    }
                }
                if (more == seen) {
                    break;
                }
                seen = more;
            }
            return seen;
        }

        private int ledTo(int v) {
            int set = 0;
            for (int p = v * MOST_K; p < v * MOST_K + k; p++) {
                if (leads[p] != LOOSE) {
                    set |= 1 << leads[p];
                }
            }
            return set;
        }

        private int countLoose(int v) {
            int loose = 0;
            for (int p = v * MOST_K; p < v * MOST_K + k; p++) {
                if (leads[p] == LOOSE) {
                    loose++;
                }
            }
            return loose;
        }

        private int loosePebble(int v) {
            for (int p = v * MOST_K; p < v * MOST_K + k; p++) {
                if (leads[p] == LOOSE) {
                    return p;
                }
            }
            return NONE;
        }

        /** Makes one more pebble of joint a loose, and takes none of joint b's for it. */
        private boolean fetch(int a, int b) {
            int seen = 1 << a | 1 << b;
            int tail = 1;
            queue[0] = a;
            for (int head = 0; head < tail && head < MOST_JOINTS; head++) {
                int v = queue[head];
                for (int p = v * MOST_K; p < v * MOST_K + k; p++) {
                    int w = leads[p];
                    if (w == LOOSE || has(seen, w)) {
                        continue;
                    }
                    seen |= 1 << w;
                    cameBy[w] = p;
                    int loose = loosePebble(w);
                    if (loose >= 0) {
                        turnBack(a, w, loose);
                        return true;
                    }
                    if (tail < MOST_JOINTS) {
                        queue[tail] = w;
                        tail++;
                    }
                }
            }
            return false;
        }

        /** Each bar on the way from a to w gets a pebble of its far end for the one of its near end. */
        private void turnBack(int a, int w, int loose) {
            int at = w;
            int free = loose;
            for (int i = 0; i < MOST_JOINTS && at != a; i++) {
                int by = cameBy[at];
                at = by / MOST_K;
                leads[free] = at;
                free = by;
            }
            leads[free] = LOOSE;
        }
    }

    /** The bars that are there, put on one by one: which are kept, and the circuits of those left. */
    private static final class Row {
        final Pebbles pebbles = new Pebbles();
        final boolean[] kept = new boolean[MOST_BARS];
        /** Of a bar that is left: the joints of its circuit (in the plane). */
        private final int[] rings = new int[MOST_BARS];
        private final int[] order = new int[MOST_BARS];
        private final Frame frame;
        private final boolean byCost;
        private int playedK;
        private int playedL;
        private int lastChange = -1;
        int size;

        Row(Frame frame, boolean byCost) {
            this.frame = frame;
            this.byCost = byCost;
        }

        void play(int k, int l) {
            if (lastChange == frame.changes && playedK == k && playedL == l) {
                return;
            }
            lastChange = frame.changes;
            playedK = k;
            playedL = l;
            pebbles.start(k, l);
            for (int bar = 0; bar < MOST_BARS; bar++) {
                kept[bar] = false;
            }
            size = 0;
            int length = lineUp();
            for (int i = 0; i < length; i++) {
                int bar = order[i];
                kept[bar] = pebbles.put(frame.lesser[bar], frame.greater[bar]);
                if (kept[bar]) {
                    size++;
                } else {
                    rings[bar] = pebbles.reach(frame.lesser[bar], frame.greater[bar]);
                }
            }
        }

        private int lineUp() {
            int length = 0;
            for (int bar = 0; bar < frame.bars; bar++) {
                if (!frame.there[bar]) {
                    continue;
                }
                int at = length;
                while (byCost && at > 0 && frame.costs[order[at - 1]] > frame.costs[bar]) {
                    order[at] = order[at - 1];
                    at--;
                }
                order[at] = bar;
                length++;
            }
            return length;
        }

        boolean isLeft(int bar) {
            return frame.there[bar] && !kept[bar];
        }

        /**
         * A circuit's joints hold as many kept bars as they can, and these are all of it: so a kept bar is
         * of the circuit if both its ends are.
         */
        boolean inCircuit(int bar, int left) {
            return kept[bar] && frame.within(bar, rings[left]);
        }

        int circuitLength(int left) {
            int length = 0;
            for (int bar = 0; bar < frame.bars; bar++) {
                if (inCircuit(bar, left)) {
                    length++;
                }
            }
            return length;
        }

        int circuitAt(int left, int i) {
            int before = 0;
            for (int bar = 0; bar < frame.bars; bar++) {
                if (inCircuit(bar, left)) {
                    if (before == i) {
                        return bar;
                    }
                    before++;
                }
            }
            return NONE;
        }

        /** Of a bar that is there: rank stays without it if another can take its place, in some circuit. */
        boolean isSpare(int bar) {
            if (!kept[bar]) {
                return true;
            }
            for (int left = 0; left < frame.bars; left++) {
                if (isLeft(left) && inCircuit(bar, left)) {
                    return true;
                }
            }
            return false;
        }

        int countSpare() {
            int spares = 0;
            for (int bar = 0; bar < frame.bars; bar++) {
                if (frame.there[bar] && isSpare(bar)) {
                    spares++;
                }
            }
            return spares;
        }

        int costOfKept() {
            int sum = 0;
            for (int bar = 0; bar < frame.bars; bar++) {
                if (kept[bar]) {
                    sum += frame.costs[bar];
                }
            }
            return sum;
        }
    }

    /** The greatest sets of joints that move as one. */
    private static final class Clusters {
        private final Frame frame;
        private final Row row;
        /** For each joint, itself and those with which it moves as one. */
        private final int[] close = new int[MOST_JOINTS];
        final int[] joints = new int[MOST_PAIRS];
        private int lastChange = -1;
        int size;

        Clusters(Frame frame, Row row) {
            this.frame = frame;
            this.row = row;
        }

        void find() {
            if (lastChange == frame.changes) {
                return;
            }
            lastChange = frame.changes;
            row.play(PLANE_K, PLANE_L);
            findClose();
            size = 0;
            for (int a = 0; a < frame.joints; a++) {
                for (int b = a + 1; b < frame.joints; b++) {
                    addIfFirstPair(a, b);
                }
            }
        }

        private void findClose() {
            for (int v = 0; v < MOST_JOINTS; v++) {
                close[v] = 1 << v;
            }
            for (int a = 0; a < frame.joints; a++) {
                for (int b = a + 1; b < frame.joints; b++) {
                    if (!has(close[a], b) && !row.pebbles.allows(a, b)) {
                        bind(row.pebbles.reach(a, b));
                    }
                }
            }
        }

        private void bind(int set) {
            for (int v = 0; v < frame.joints; v++) {
                if (has(set, v)) {
                    close[v] |= set;
                }
            }
        }

        /**
         * Two clusters have one joint in common at most, so a cluster is known by its two least joints, and the
         * order of these pairs is the clusters' order.
         */
        private void addIfFirstPair(int a, int b) {
            int set = close[a] & close[b];
            int below = set & (1 << b) - 1;
            if (has(set, b) && below == 1 << a && size < MOST_PAIRS) {
                joints[size] = set;
                size++;
            }
        }

        int firstWith(int a, int b) {
            for (int i = 0; i < size; i++) {
                if (has(joints[i], a) && has(joints[i], b)) {
                    return i;
                }
            }
            return NONE;
        }

        boolean isHinge(int joint) {
            int with = 0;
            for (int i = 0; i < size; i++) {
                if (has(joints[i], joint)) {
                    with++;
                }
            }
            return with >= 2;
        }

        int countHinges() {
            int hinges = 0;
            for (int v = 0; v < frame.joints; v++) {
                if (isHinge(v)) {
                    hinges++;
                }
            }
            return hinges;
        }
    }

    /** Bars that lean on one another: joined through circuits. */
    private static final class Bundles {
        private final Frame frame;
        private final Row row;
        /** Of each bar that is there, the least bar of its bundle. */
        private final int[] heads = new int[MOST_BARS];
        private int lastChange = -1;
        int size;

        Bundles(Frame frame, Row row) {
            this.frame = frame;
            this.row = row;
        }

        void find() {
            if (lastChange == frame.changes) {
                return;
            }
            lastChange = frame.changes;
            row.play(PLANE_K, PLANE_L);
            for (int bar = 0; bar < MOST_BARS; bar++) {
                heads[bar] = bar;
            }
            for (int left = 0; left < frame.bars; left++) {
                if (row.isLeft(left)) {
                    joinCircuit(left);
                }
            }
            size = headsBelow(frame.bars);
        }

        private void joinCircuit(int left) {
            for (int bar = 0; bar < frame.bars; bar++) {
                if (heads[bar] != heads[left] && row.inCircuit(bar, left)) {
                    join(heads[bar], heads[left]);
                }
            }
        }

        private void join(int one, int other) {
            int least = Math.min(one, other);
            int greatest = Math.max(one, other);
            for (int bar = 0; bar < frame.bars; bar++) {
                if (heads[bar] == greatest) {
                    heads[bar] = least;
                }
            }
        }

        int numberOf(int bar) {
            return headsBelow(heads[bar]);
        }

        private int headsBelow(int bound) {
            int below = 0;
            for (int bar = 0; bar < bound; bar++) {
                if (frame.there[bar] && heads[bar] == bar) {
                    below++;
                }
            }
            return below;
        }
    }

    /** The fewest bars that make all stiff. */
    private static final class Missing {
        private final Frame frame;
        private final Row row;
        private final Pebbles board;
        final int[] pairs = new int[MOST_PAIRS];
        private int lastChange = -1;
        int size;

        Missing(Frame frame, Row row, Pebbles board) {
            this.frame = frame;
            this.row = row;
            this.board = board;
        }

        void find() {
            if (lastChange == frame.changes) {
                return;
            }
            lastChange = frame.changes;
            row.play(PLANE_K, PLANE_L);
            board.start(PLANE_K, PLANE_L);
            for (int bar = 0; bar < frame.bars; bar++) {
                if (row.kept[bar]) {
                    board.put(frame.lesser[bar], frame.greater[bar]);
                }
            }
            size = 0;
            // Two joints with which rank doesn't grow never grow it later, so one walk over all is enough.
            for (int a = 0; a < frame.joints; a++) {
                for (int b = a + 1; b < frame.joints; b++) {
                    tellIfGrows(a, b);
                }
            }
        }

        private void tellIfGrows(int a, int b) {
            if (!frame.tied(a, b) && size < MOST_PAIRS && board.put(a, b)) {
                pairs[size] = PAIR_SCALE * a + b;
                size++;
            }
        }
    }

    /** The steps back, by which the kept bars are taken down joint by joint. */
    private static final class Steps {
        private final Frame frame;
        private final Row row;
        private final Pebbles board;
        final int[] gone = new int[MOST_JOINTS];
        final int[] kinds = new int[MOST_JOINTS];
        final int[] comes = new int[MOST_JOINTS];
        /** For each joint, those to which a bar leads that has not gone yet. */
        private final int[] near = new int[MOST_JOINTS];
        private int lastChange = -1;

        Steps(Frame frame, Row row, Pebbles board) {
            this.frame = frame;
            this.row = row;
            this.board = board;
        }

        void walk() {
            if (lastChange == frame.changes) {
                return;
            }
            lastChange = frame.changes;
            row.play(PLANE_K, PLANE_L);
            Arrays.fill(near, 0);
            for (int bar = 0; bar < frame.bars; bar++) {
                if (row.kept[bar]) {
                    tie(frame.lesser[bar], frame.greater[bar]);
                }
            }
            int stay = (1 << frame.joints) - 1;
            for (int i = 0; i < frame.joints; i++) {
                int v = leastTied(stay);
                int neighbours = near[v];
                gone[i] = v;
                kinds[i] = Integer.bitCount(neighbours);
                stay &= ~(1 << v);
                takeAway(v);
                comes[i] = NONE;
                if (kinds[i] == 3) {
                    layBoard();
                    comes[i] = bridge(neighbours);
                }
            }
        }

        int countThrees() {
            int threes = 0;
            for (int i = 0; i < frame.joints; i++) {
                if (kinds[i] == 3) {
                    threes++;
                }
            }
            return threes;
        }

        private void tie(int a, int b) {
            near[a] |= 1 << b;
            near[b] |= 1 << a;
        }

        private int leastTied(int stay) {
            int best = 0;
            int fewestTies = MOST_JOINTS;
            for (int v = 0; v < frame.joints; v++) {
                int ties = Integer.bitCount(near[v]);
                if (has(stay, v) && ties < fewestTies) {
                    best = v;
                    fewestTies = ties;
                }
            }
            return best;
        }

        private void takeAway(int v) {
            near[v] = 0;
            for (int w = 0; w < MOST_JOINTS; w++) {
                near[w] &= ~(1 << v);
            }
        }

        private int bridge(int neighbours) {
            for (int a = 0; a < MOST_JOINTS; a++) {
                for (int b = a + 1; b < MOST_JOINTS; b++) {
                    // A bar that is between them already would not be allowed twice.
                    if (has(neighbours, a) && has(neighbours, b) && board.allows(a, b)) {
                        tie(a, b);
                        return PAIR_SCALE * a + b;
                    }
                }
            }
            return NONE;
        }

        private void layBoard() {
            board.start(PLANE_K, PLANE_L);
            for (int a = 0; a < MOST_JOINTS; a++) {
                for (int b = a + 1; b < MOST_JOINTS; b++) {
                    if (has(near[a], b)) {
                        board.put(a, b);
                    }
                }
            }
        }
    }
}
