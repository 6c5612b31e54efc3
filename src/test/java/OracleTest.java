import java.util.ArrayList;
import java.util.Collections;
import java.util.List;
import java.util.Random;

/** Random runs of calls, right and wrong ones, of StiffFrames and of the Oracle side by side. */
final class OracleTest {
    private final Due due;
    private final Random random;
    private final String name;
    private final StiffFrames x = new StiffFrames();
    private final Oracle y = new Oracle();
    private int calls;

    private OracleTest(Due due, String name, long seed) {
        this.due = due;
        this.name = name + " " + seed;
        this.random = new Random(seed);
    }

    private void same(String call, int got, int want) {
        calls++;
        due.same(name + ", call " + calls + ": " + call, got, want);
    }

    /** Mostly 0 .. bound - 1, at times just outside or far off. */
    private int pick(int bound) {
        int dice = random.nextInt(40);
        if (dice == 0) {
            return -1;
        }
        if (dice == 1) {
            return bound;
        }
        if (dice == 2) {
            return random.nextInt();
        }
        if (dice == 3) {
            return random.nextBoolean() ? Integer.MAX_VALUE : Integer.MIN_VALUE;
        }
        return bound <= 0 ? 0 : random.nextInt(bound);
    }

    private void joint() {
        same("joint()", x.joint(), y.joint());
    }

    private void bar(int costs) {
        int a = pick(x.count(0));
        int b = pick(x.count(0));
        y.count(0);
        int cost = random.nextInt(30) == 0 ? pick(1000) : random.nextInt(costs);
        same("bar(" + a + ", " + b + ", " + cost + ")", x.bar(a, b, cost), y.bar(a, b, cost));
    }

    private void cut(boolean on) {
        int bar = pick(x.count(1));
        same("cut(" + bar + ", " + on + ")", x.cut(bar, on), y.cut(bar, on));
    }

    private void cost() {
        int bar = pick(x.count(1));
        int v = pick(1000);
        same("cost(" + bar + ", " + v + ")", x.cost(bar, v), y.cost(bar, v));
    }

    private void askPlain(int which) {
        switch (which) {
            case 0: same("rank()", x.rank(), y.rank()); break;
            case 1: same("freedom()", x.freedom(), y.freedom()); break;
            case 2: same("stiff()", x.stiff(), y.stiff()); break;
            case 3: same("clusters()", x.clusters(), y.clusters()); break;
            case 4: same("pieces()", x.pieces(), y.pieces()); break;
            case 5: same("cheapest()", x.cheapest(), y.cheapest()); break;
            case 6: same("fewest()", x.fewest(), y.fewest()); break;
            case 7: same("threes()", x.threes(), y.threes()); break;
            case 8: same("bundles()", x.bundles(), y.bundles()); break;
            default: same("forests()", x.forests(), y.forests()); break;
        }
    }

    private void askOfOne(int which, int bar, int i) {
        String tail = "(" + bar + ")";
        switch (which) {
            case 0: same("kept" + tail, x.kept(bar), y.kept(bar)); break;
            case 1: same("spare" + tail, x.spare(bar), y.spare(bar)); break;
            case 2: same("circuit" + tail, x.circuit(bar), y.circuit(bar)); break;
            case 3: same("cheap" + tail, x.cheap(bar), y.cheap(bar)); break;
            case 4: same("bundle" + tail, x.bundle(bar), y.bundle(bar)); break;
            case 5: same("circuitBar(" + bar + ", " + i + ")", x.circuitBar(bar, i), y.circuitBar(bar, i)); break;
            default: same("barOf(" + bar + ", " + i + ")", x.barOf(bar, i), y.barOf(bar, i)); break;
        }
    }

    private void askOfTwo(int which, int a, int b) {
        String tail = "(" + a + ", " + b + ")";
        switch (which) {
            case 0: same("grows" + tail, x.grows(a, b), y.grows(a, b)); break;
            case 1: same("together" + tail, x.together(a, b), y.together(a, b)); break;
            case 2: same("hinge(" + a + ")", x.hinge(a), y.hinge(a)); break;
            case 3: same("back" + tail, x.back(a, b), y.back(a, b)); break;
            case 4: same("fewestAt(" + a + ")", x.fewestAt(a), y.fewestAt(a)); break;
            case 5: same("size(" + a + ")", x.size(a), y.size(a)); break;
            case 6: same("member" + tail, x.member(a, b), y.member(a, b)); break;
            case 7: same("rankBy" + tail, x.rankBy(a, b), y.rankBy(a, b)); break;
            default: same("tight" + tail, x.tight(a, b), y.tight(a, b)); break;
        }
    }

    private void ask() {
        int joints = x.count(0);
        int bars = x.count(1);
        switch (random.nextInt(9)) {
            case 0: askPlain(random.nextInt(10)); break;
            case 1:
            case 2: askOfOne(random.nextInt(5), pick(bars), 0); break;
            case 3: askOfOne(5 + random.nextInt(2), pick(bars), pick(6)); break;
            case 4: askOfTwo(random.nextInt(3), pick(joints), pick(joints)); break;
            case 5: askOfTwo(3 + random.nextInt(2), pick(joints), pick(3)); break;
            case 6: askOfTwo(5 + random.nextInt(2), pick(x.clusters()), pick(4)); break;
            case 7: askOfTwo(7 + random.nextInt(2), 1 + pick(3), pick(6)); break;
            default: askByCountOrCount(pick(bars));
        }
    }

    private void askByCountOrCount(int bar) {
        if (random.nextBoolean()) {
            int what = pick(18);
            same("count(" + what + ")", x.count(what), y.count(what));
            return;
        }
        int k = 1 + pick(3);
        int l = pick(6);
        same("keptBy(" + bar + ", " + k + ", " + l + ")", x.keptBy(bar, k, l), y.keptBy(bar, k, l));
    }

    private void askAll() {
        int joints = x.count(0);
        int bars = x.count(1);
        for (int which = 0; which < 10; which++) {
            askPlain(which);
        }
        for (int bar = 0; bar < bars; bar++) {
            for (int which = 0; which < 5; which++) {
                askOfOne(which, bar, 0);
            }
            for (int i = -1; i < 6; i++) {
                askOfOne(5, bar, i);
                askOfOne(6, bar, i);
            }
        }
        for (int a = 0; a < joints; a++) {
            for (int b = 0; b < joints; b++) {
                askOfTwo(0, a, b);
                askOfTwo(1, a, b);
            }
            askOfTwo(2, a, 0);
        }
        for (int i = -1; i <= 2 * joints; i++) {
            for (int what = 0; what < 3; what++) {
                askOfTwo(3, i, what);
            }
            askOfTwo(4, i, 0);
            askOfTwo(5, i, 0);
            for (int k = -1; k <= joints; k++) {
                askOfTwo(6, i, k);
            }
        }
        askAllByCount(bars);
        for (int what = -1; what < 19; what++) {
            same("count(" + what + ")", x.count(what), y.count(what));
        }
    }

    private void askAllByCount(int bars) {
        for (int k = 0; k <= 4; k++) {
            for (int l = -1; l <= 6; l++) {
                askOfTwo(7, k, l);
                askOfTwo(8, k, l);
                for (int bar = 0; bar < bars; bar += 1 + random.nextInt(3)) {
                    same("keptBy(" + bar + ", " + k + ", " + l + ")", x.keptBy(bar, k, l), y.keptBy(bar, k, l));
                }
            }
        }
    }

    private void mixed(int mostJoints, int mostBars, int length) {
        for (int i = 0; i < length && due.wrong() < 20; i++) {
            int dice = random.nextInt(20);
            if (dice == 0 && x.count(0) < mostJoints) {
                joint();
            } else if (dice <= 6 && x.count(1) < mostBars) {
                bar(random.nextBoolean() ? 5 : 1000);
            } else if (dice == 7) {
                cut(true);
            } else if (dice == 8) {
                cut(random.nextBoolean());
            } else if (dice == 9) {
                cost();
            } else {
                ask();
            }
        }
    }

    private void built(int joints, int bars, int cuts) {
        for (int i = 0; i < joints; i++) {
            joint();
        }
        // Neighbours by number are favoured, so that stiff parts and hinges come about.
        int near = 2 + random.nextInt(joints);
        for (int i = 0; i < 20 * bars && x.count(1) < bars; i++) {
            int a = random.nextInt(joints);
            int b = Math.floorMod(a + 1 + random.nextInt(near), joints);
            int cost = random.nextInt(4) * 100;
            same("bar(" + a + ", " + b + ", " + cost + ")", x.bar(a, b, cost), y.bar(a, b, cost));
        }
        for (int i = 0; i < cuts; i++) {
            cut(random.nextInt(4) > 0);
        }
        askAll();
    }

    /** Stiff, with many joints of three bars and few of two, so that steps 3 come often. */
    private void grown(int joints, int more) {
        for (int i = 0; i < joints; i++) {
            joint();
        }
        List<Integer> numbers = new ArrayList<>();
        for (int i = 0; i < joints; i++) {
            numbers.add(i);
        }
        Collections.shuffle(numbers, random);
        List<int[]> pairs = pairsBySteps(joints);
        Collections.shuffle(pairs, random);
        for (int[] pair : pairs) {
            int a = numbers.get(pair[0]);
            int b = numbers.get(pair[1]);
            same("bar(" + a + ", " + b + ", 0)", x.bar(a, b, 0), y.bar(a, b, 0));
        }
        for (int i = 0; i < more; i++) {
            bar(5);
        }
        for (int i = 0; i < joints; i++) {
            for (int what = 0; what < 3; what++) {
                askOfTwo(3, i, what);
            }
        }
        askPlain(7);
    }

    /** Each joint comes with two bars, or with three for one that goes. */
    private List<int[]> pairsBySteps(int joints) {
        List<int[]> pairs = new ArrayList<>();
        pairs.add(new int[] {0, 1});
        for (int v = 2; v < joints; v++) {
            int[] old = pairs.get(random.nextInt(pairs.size()));
            int third = random.nextInt(v);
            if (third != old[0] && third != old[1]) {
                pairs.remove(old);
                pairs.add(new int[] {third, v});
            }
            pairs.add(new int[] {old[0], v});
            pairs.add(new int[] {old[1], v});
        }
        return pairs;
    }

    private void judges() {
        for (int k = 1; k <= 3; k++) {
            for (int l = 0; l < 2 * k; l++) {
                due.holds(name + ": both judges of the oracle agree by " + k + ", " + l, y.judgesAgree(k, l));
            }
        }
    }

    public static void main(String[] args) {
        Due due = new Due();
        for (int seed = 0; seed < 400 && due.wrong() < 20; seed++) {
            OracleTest small = new OracleTest(due, "small", seed);
            small.joint();
            small.joint();
            small.mixed(2 + seed % 5, 9, 300);
            small.judges();
        }
        for (int seed = 0; seed < 60 && due.wrong() < 20; seed++) {
            new OracleTest(due, "middling", seed).mixed(12, 40, 500);
        }
        for (int seed = 0; seed < 150 && due.wrong() < 20; seed++) {
            new OracleTest(due, "small, all asked", seed).built(1 + seed % 7, 4 + seed % 12, seed % 4);
        }
        for (int seed = 0; seed < 40 && due.wrong() < 20; seed++) {
            new OracleTest(due, "middling, all asked", seed).built(8 + seed % 6, 8 + seed % 23, seed % 6);
        }
        for (int seed = 0; seed < 1000 && due.wrong() < 20; seed++) {
            new OracleTest(due, "grown", seed).grown(6 + seed % 19, seed % 5);
        }
        int[][] greats = {{24, 80, 0}, {24, 60, 8}, {24, 50, 4}, {24, 46, 0}, {13, 78, 0}, {16, 80, 25}, {20, 40, 2}};
        for (int i = 0; i < greats.length && due.wrong() < 20; i++) {
            new OracleTest(due, "great, all asked", i).built(greats[i][0], greats[i][1], greats[i][2]);
        }
        due.end();
    }
}
