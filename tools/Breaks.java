import java.io.File;
import java.io.IOException;
import java.nio.file.Files;
import java.nio.file.Path;
import java.util.ArrayList;
import java.util.List;
import java.util.concurrent.ExecutorService;
import java.util.concurrent.Executors;
import java.util.concurrent.Future;
import java.util.concurrent.TimeUnit;

/**
 * Shows that the rows of EdgesTest can fail: breaks the class in one place after another and looks whether a row that
 * quotes the broken words tells so. Run by hand, from the project's folder: java tools/Breaks.java
 */
public final class Breaks {
    private static final Path SOURCE = Path.of("src/main/java/StiffFrames.java");
    private static final int SECONDS = 60;

    private record Break(int promise, String words, String method, String from, String to) {
        String name() {
            return "promise " + promise + " \"" + words + "\": in " + method + " " + from + " -> " + to;
        }
    }

    private final List<Break> breaks = new ArrayList<>();
    private final String source;
    private final Path room;

    private Breaks() throws IOException {
        source = Files.readString(SOURCE);
        room = Files.createTempDirectory("breaks");
    }

    private void broken(int promise, String words, String method, String from, String to) {
        breaks.add(new Break(promise, words, method, from, to));
    }

    /** A method with the wrong refusal's number in it, and one that isn't counted. */
    private void refusal(int promise, String words, String method, String name) {
        broken(promise, words, method, "refuse(" + name + ")", "refuse(-5)");
        broken(promise, words, method, "refuse(" + name + ")", name);
    }

    private void newAndJoint() {
        broken(1, "No JOINTS", "class Frame", "int joints;", "int joints = 1;");
        broken(1, "no BARS", "class Frame", "int bars;", "int bars = 1;");
        broken(2, "A JOINT: its number.", "int addJoint(", "joints++", "++joints");
        broken(2, "-6 there are 24", "int joint(", ">= MOST_JOINTS", "> MOST_JOINTS");
        broken(2, "A JOINT: its number.", "int joint(", ">= MOST_JOINTS", ">= MOST_JOINTS - 1");
        refusal(2, "-6 there are 24", "int joint(", "ROOM");
        broken(2, "-6 there are 24", "int joint(", "frame.joints >=", "frame.addJoint() + 1 >=");
        broken(0, "24 at most", "class StiffFrames", "MOST_JOINTS = 24", "MOST_JOINTS = 23");
    }

    private void bar() {
        broken(3, "A BAR, THERE: its number.", "int addBar(", "return number", "return bars");
        broken(3, "A BAR, THERE: its number.", "int addBar(", "there[number] = true", "there[number] = false");
        broken(0, "the lesser one first", "int bar(", "Math.min(a, b), Math.max(a, b)", "a, b");
        refusal(3, "-1", "int bar(", "NOBODY");
        broken(3, "-1", "boolean noJoint(", "joint < 0 ||", "joint == -1 ||");
        broken(3, "-1", "boolean noJoint(", ">= frame.joints", "> frame.joints");
        broken(3, "-1", "boolean noPair(", "noJoint(a) ||", "");
        broken(3, "-1", "boolean noPair(", "noJoint(b) ||", "");
        broken(3, "(also if they are one)", "boolean noPair(", " || a == b", "");
        refusal(3, "-3 there is one between them", "int bar(", "STATE");
        broken(3, "-3 there is one between them", "int bar(", "frame.tied(a, b)", "a < b && frame.tied(a, b)");
        broken(3, "-3 there is one between them", "int bar(", "frame.tied(a, b)", "frame.thereNow > 0 && frame.tied(a, b)");
        broken(0, "at most one between two", "int bar(", "frame.tied(a, b)", "false");
        refusal(3, "-4", "int bar(", "BELOW");
        broken(3, "-4", "int bar(", "cost < 0", "cost < -1");
        broken(0, "a COST (0 .. 999)", "int bar(", "cost < 0", "cost < 1");
        refusal(3, "-6", "int bar(", "ROOM");
        broken(3, "-6", "int bar(", "cost > MOST_COST", "cost > MOST_COST + 1");
        broken(0, "a COST (0 .. 999)", "int bar(", "cost > MOST_COST", "cost >= MOST_COST");
        broken(3, "(80, too)", "int bar(", "frame.bars >= MOST_BARS", "frame.bars > MOST_BARS");
        broken(3, "(80, too)", "int bar(", "frame.bars >= MOST_BARS", "frame.bars >= MOST_BARS - 1");
        broken(3, "(80, too)", "int bar(", "frame.bars >= MOST_BARS", "frame.thereNow >= MOST_BARS");
        broken(0, "80 at most", "class StiffFrames", "MOST_BARS = 80", "MOST_BARS = 79");
        String order = "-1 (also if they are one); -3 there is one between them; -4; -6 (80, too)";
        broken(3, order, "int bar(", "if (noPair(a, b))", "if (cost < 0) {\nreturn refuse(BELOW);\n}\nif (noPair(a, b))");
        broken(3, order, "int bar(", "if (noPair(a, b))", "if (cost > 999) {\nreturn refuse(ROOM);\n}\nif (noPair(a, b))");
        broken(3, order, "int bar(", "if (noPair(a, b))", "if (frame.bars >= 80) {\nreturn refuse(ROOM);\n}\nif (noPair(a, b))");
        broken(3, order, "int bar(", "if (frame.tied", "if (cost < 0) {\nreturn refuse(BELOW);\n}\nif (frame.tied");
        broken(3, order, "int bar(", "if (frame.tied", "if (cost > 999) {\nreturn refuse(ROOM);\n}\nif (frame.tied");
        broken(3, order, "int bar(", "if (frame.tied", "if (frame.bars >= 80) {\nreturn refuse(ROOM);\n}\nif (frame.tied");
        broken(3, order, "int bar(", "if (cost < 0)", "if (frame.bars >= 80) {\nreturn refuse(ROOM);\n}\nif (cost < 0)");
        broken(0, "the first that fits in the order in which it tells them", "int bar(", "if (noPair(a, b))",
            "if (cost < 0) {\nreturn refuse(BELOW);\n}\nif (noPair(a, b))");
    }

    private void cutAndCost() {
        broken(4, "A BAR is CUT, or THERE again: 1", "int cut(", "!on", "on");
        broken(4, "0 if it was so", "boolean setThere(", "return false", "return true");
        refusal(4, "-1", "int cut(", "NOBODY");
        broken(4, "-1", "boolean noBar(", "bar < 0 ||", "bar == -1 ||");
        broken(4, "-1", "boolean noBar(", ">= frame.bars", "> frame.bars");
        broken(5, "COST: what it was.", "int setCost(", "return was", "return price");
        broken(20, "COST of CHEAPEST.", "int setCost(", "changes++;", "");
        refusal(5, "-1", "int cost(", "NOBODY");
        refusal(5, "-4", "int cost(", "BELOW");
        refusal(5, "-6", "int cost(", "ROOM");
        broken(5, "-4", "int cost(", "v < 0", "v < -1");
        broken(5, "COST: what it was.", "int cost(", "v < 0", "v < 1");
        broken(5, "-6", "int cost(", "v > MOST_COST", "v > MOST_COST + 1");
        broken(5, "COST: what it was.", "int cost(", "v > MOST_COST", "v >= MOST_COST");
        broken(5, "-1; -4; -6", "int cost(", "if (noBar(bar))", "if (v < 0) {\nreturn refuse(BELOW);\n}\nif (noBar(bar))");
        broken(5, "-1; -4; -6", "int cost(", "if (noBar(bar))", "if (v > 999) {\nreturn refuse(ROOM);\n}\nif (noBar(bar))");
    }

    private void rankToStiff() {
        broken(6, "RANK of those THERE.", "int rank(", "row.size", "frame.thereNow");
        broken(6, "RANK of those THERE.", "int lineUp(", "!frame.there[bar]", "false");
        broken(0, "m is at most 2 n less 3", "class StiffFrames", "PLANE_L = 3", "PLANE_L = 2");
        broken(7, "FREEDOM.", "int freedom(", "2 * frame.joints - row.size", "Math.max(3, 2 * frame.joints - row.size)");
        broken(7, "FREEDOM.", "int freedom(", "2 * frame.joints - row.size", "2 * frame.joints - frame.thereNow");
        broken(8, "0 neither (without JOINTS, too)", "int stiff(", "frame.joints == 0 || ", "");
        broken(8, "0 neither", "int stiff(", "> PLANE_L", "> PLANE_L + 1");
        broken(8, "1 STIFF", "int stiff(", "> PLANE_L", "> PLANE_L - 1");
        broken(8, "1 STIFF", "int stiff(", "? 2 : 1", "? 2 : 2");
        broken(8, "2 STRONG", "int stiff(", "? 2 : 1", "? 1 : 1");
        broken(8, "1 STIFF", "int stiff(", "== frame.thereNow", ">= frame.thereNow - 2");
        broken(0, "FREEDOM is 3 at most (one JOINT: 2)", "int stiff(", "frame.joints == 0", "frame.joints <= 1");
        broken(0, "FREEDOM is 3 at most", "int stiff(", "> PLANE_L", "> PLANE_L + 1");
        broken(0, "is so without any one BAR that is THERE", "int stiff(", "== frame.thereNow", "== frame.bars");
    }

    private void keptToGrows() {
        broken(9, "Of a BAR in THE ROW: 1 KEPT, 0 LEFT", "int kept(", "keptIn(row, bar)", "keptIn(row, bar) == 0 ? 1 : keptIn(row, bar)");
        broken(9, "-9 CUT", "int keptIn(", "return NONE", "return 0");
        refusal(9, "-1", "int kept(", "NOBODY");
        broken(10, "Whether a BAR that is THERE is SPARE: 1, 0", "boolean isSpare(", "isLeft(left) && ", "left == 5 && ");
        broken(10, "Whether a BAR that is THERE is SPARE: 1, 0", "int spare(", "? 1 : 0", "? 1 : frame.bars > 79 ? 1 : 0");
        broken(10, "-9 CUT", "int spare(", "return NONE", "return 0");
        refusal(10, "-1", "int spare(", "NOBODY");
        broken(11, "How many BARS the CIRCUIT of a BAR that is LEFT has.", "int circuitLength(", "int length = 0", "int length = 1");
        broken(11, "-3 it is not LEFT", "boolean isLeft(", "frame.there[bar] && ", "");
        refusal(11, "-3 it is not LEFT", "int circuit(", "STATE");
        refusal(11, "-1", "int circuit(", "NOBODY");
        broken(12, "The i-th BAR of it, by numbers", "int circuitAt(", "int before = 0", "int before = 1");
        broken(12, "-9 there is none such", "int circuitAt(", "return NONE", "return STATE");
        broken(12, "-9 there is none such", "int circuitBar(", "row.circuitAt(bar, i)", "i < 0 ? refuse(BELOW) : row.circuitAt(bar, i)");
        broken(12, "-1; -3", "int circuitBar(", "if (noBar(bar))", "if (i < 0) {\nreturn NONE;\n}\nif (noBar(bar))");
        broken(12, "-1; -3", "int circuitBar(", "return row.isLeft", "return i < 0 ? NONE : row.isLeft");
        refusal(12, "-1", "int circuitBar(", "NOBODY");
        refusal(12, "-3", "int circuitBar(", "STATE");
        broken(13, "Whether RANK would grow by a BAR between two JOINTS: 1, 0", "int grows(", "row.pebbles.allows(a, b)",
            "!frame.tied(a, b) && row.pebbles.allows(a, b)");
        broken(13, "Whether RANK would grow by a BAR between two JOINTS: 1, 0", "int grows(", "row.pebbles.allows(a, b)",
            "frame.bars < 80 && row.pebbles.allows(a, b)");
        refusal(13, "-1", "int grows(", "NOBODY");
        broken(13, "-1 (also if they are one)", "boolean noPair(", " || a == b", "");
    }

    private void clustersToPieces() {
        broken(14, "How many CLUSTERS there are.", "void addIfFirstPair(", "size < MOST_PAIRS", "size < 43");
        broken(0, "a greatest set of two or more JOINTS", "void findClose(", "!has(close[a], b) &&", "frame.tied(a, b) &&");
        broken(0, "two CLUSTERS have one JOINT in common at most", "void addIfFirstPair(", "close[a] & close[b]", "close[a] | close[b]");
        broken(0, "CLUSTERS are numbered by their least JOINT, then by the next one", "void find(",
            "int b = a + 1; b < frame.joints; b++", "int b = frame.joints - 1; b > a; b--");
        broken(15, "How many JOINTS CLUSTER i has.", "int size(", "Integer.bitCount(sets.joints[i])",
            "Math.min(23, Integer.bitCount(sets.joints[i]))");
        broken(15, "-1", "boolean noCluster(", "i < 0 ||", "i == -1 ||");
        broken(15, "-1", "boolean noCluster(", ">= sets.size", "> sets.size");
        refusal(15, "-1", "int size(", "NOBODY");
        broken(16, "The k-th JOINT of it, by numbers", "int jointAt(", "v < MOST_JOINTS", "v < MOST_JOINTS - 1");
        broken(16, "-9 there is none such", "int jointAt(", "return NONE", "return 0");
        broken(16, "-9 there is none such", "int member(", "jointAt(sets.joints[i], k)", "k < 0 ? refuse(NOBODY) : jointAt(sets.joints[i], k)");
        broken(16, "-9 there is none such. -1", "int member(", "return noCluster", "return k < 0 ? NONE : noCluster");
        broken(16, "-1", "boolean noCluster(", ">= sets.size", "> sets.size");
        refusal(16, "-1", "int member(", "NOBODY");
        broken(17, "The least CLUSTER of which both JOINTS are", "int firstWith(", "i < size", "i < size && i < 43");
        broken(17, "-9 none", "int firstWith(", "return NONE", "return NOBODY");
        broken(17, "-9 none", "int together(", "sets.firstWith(a, b)", "sets.firstWith(a, b) < 0 ? refuse(NOBODY) : sets.firstWith(a, b)");
        refusal(17, "-1", "int together(", "NOBODY");
        broken(17, "-1 (also if they are one)", "boolean noPair(", " || a == b", "");
        broken(18, "Whether a JOINT is a HINGE: 1, 0.", "boolean isHinge(", "with >= 2", "with >= 1");
        broken(18, "Whether a JOINT is a HINGE: 1, 0.", "boolean isHinge(", "with >= 2", "with == 2");
        refusal(18, "-1", "int hinge(", "NOBODY");
        broken(19, "How many PIECES there are.", "int pieces(", "play(1, 1)", "play(1, 0)");
        broken(19, "How many PIECES there are.", "int pieces(", "frame.joints - otherRow.size", "Math.max(1, frame.joints - otherRow.size)");
    }

    private void pricesAndMissing() {
        broken(20, "COST of CHEAPEST.", "int cheapest(", "cheapRow.costOfKept()", "(short) cheapRow.costOfKept()");
        broken(20, "COST of CHEAPEST.", "int costOfKept(", "kept[bar]", "frame.there[bar]");
        broken(21, "Whether a BAR is KEPT in CHEAPEST: 1, 0", "int lineUp(", "> frame.costs[bar]", ">= frame.costs[bar]");
        broken(0, "likewise, but by COST, of one COST by numbers", "int lineUp(", "> frame.costs[bar]", ">= frame.costs[bar]");
        broken(0, "likewise, but by COST, of one COST by numbers", "int lineUp(", "byCost &&", "false &&");
        broken(21, "-9 CUT", "int keptIn(", "return NONE", "return 0");
        refusal(21, "-1", "int cheap(", "NOBODY");
        broken(22, "FEWEST, as many as are told", "void tellIfGrows(", "size < MOST_PAIRS", "size < 44");
        broken(22, "FEWEST, as many as are told", "int fewest(", "missing.size", "2 * frame.joints - row.size - 3");
        broken(22, "(without such two: fewer)", "int fewest(", "missing.size", "Math.max(0, 2 * frame.joints - row.size - 3)");
        broken(22, "(without such two: fewer)", "void tellIfGrows(", "!frame.tied(a, b) && ", "");
        broken(0, "till it is STIFF (or no such two are left)", "void tellIfGrows(", "board.put(a, b)", "board.allows(a, b)");
        broken(23, "100 times the lesser JOINT and the greater one of the i-th of these", "void tellIfGrows(", "PAIR_SCALE * a + b", "PAIR_SCALE * b + a");
        broken(23, "-9 there is none such", "int fewestAt(", "i >= missing.size", "i > missing.size");
        broken(23, "-9 there is none such", "int fewestAt(", "i < 0 ||", "i == -1 ||");
        broken(23, "-9 there is none such", "int fewestAt(", "? NONE", "? refuse(NOBODY)");
    }

    private void stepsBack() {
        broken(24, "STEPS BACK: the i-th JOINT that goes (what 0)", "int back(", "return steps.gone[i]", "return steps.gone[0]");
        broken(24, "its STEP (1)", "int back(", "steps.kinds[i]", "Math.max(1, steps.kinds[i])");
        broken(24, "the BAR that comes (2: 100 times the lesser and the greater JOINT", "int bridge(", "PAIR_SCALE * a + b", "PAIR_SCALE * b + a");
        broken(24, "-9 none", "void walk(", "comes[i] = NONE", "comes[i] = 0");
        broken(24, "-9 there is none such", "int back(", "return NONE", "return refuse(NOBODY)");
        broken(24, "-9 there is none such", "int back(", "if (noJoint(i))", "if (i < 0 || i >= MOST_JOINTS)");
        broken(24, "-2", "int back(", "what > 2", "what > 3");
        broken(24, "-2", "int back(", "what < 0", "what < -1");
        refusal(24, "-2", "int back(", "OTHER");
        broken(24, "-9 there is none such. -2", "int back(", "if (what < 0", "if (noJoint(i)) {\nreturn NONE;\n}\nif (what < 0");
        broken(0, "a JOINT with no BAR of these goes at once", "int leastTied(", "ties < fewestTies", "ties > 0 && ties < fewestTies");
        broken(0, "of several the least number", "int leastTied(", "ties < fewestTies", "ties <= fewestTies");
        broken(0, "the JOINT of the fewest BARS", "int leastTied(", "fewestTies = ties;", "");
        broken(0, "of the KEPT BARS alone", "void walk(", "row.kept[bar]", "frame.there[bar]");
        broken(0, "till none is left", "void walk(", "i < frame.joints", "i < frame.joints - 1");
        broken(0, "with one: it goes with that BAR (a STEP 1)", "void takeAway(", "near[w] &= ~(1 << v);", "");
        broken(0, "with two: it goes with these (STEP 2)", "void takeAway(", "near[w] &= ~(1 << v);", "");
        broken(0, "with three: it goes with these", "void takeAway(", "near[w] &= ~(1 << v);", "");
        broken(0, "a BAR comes between", "int bridge(", "tie(a, b);", "");
        broken(0, "first with second, then first with third, then second with third", "int bridge(",
            "int b = a + 1; b < MOST_JOINTS; b++", "int b = MOST_JOINTS - 1; b > a; b--");
        broken(0, "first with second, then first with third, then second with third", "int bridge(",
            "int a = 0; a < MOST_JOINTS; a++", "int a = MOST_JOINTS - 1; a >= 0; a--");
        broken(0, "what is left stays FREE", "int bridge(", "board.allows(a, b)", "!has(near[a], b)");
        broken(0, "between which none is", "int bridge(", "board.allows(a, b)", "!frame.tied(a, b) && board.allows(a, b)");
        broken(25, "How many STEPS 3 there are.", "int countThrees(", "== 3", ">= 2");
        broken(25, "How many STEPS 3 there are.", "int countThrees(", "threes++", "threes = 1");
    }

    private void bundles() {
        broken(26, "How many BUNDLES there are.", "int bundles(", "heaps.size", "Math.max(1, heaps.size)");
        broken(26, "How many BUNDLES there are.", "int headsBelow(", "frame.there[bar] && ", "");
        broken(0, "who is in no CIRCUIT is a BUNDLE alone", "void find(", "size = headsBelow(frame.bars)", "size = headsBelow(frame.bars - 1)");
        broken(0, "or both of one BUNDLE with a third one", "void join(", "heads[bar] == greatest", "bar == greatest");
        broken(27, "The BUNDLE of a BAR", "int numberOf(", "headsBelow(heads[bar])", "heads[bar]");
        broken(27, "-9 CUT", "int bundle(", "return NONE", "return 0");
        refusal(27, "-1", "int bundle(", "NOBODY");
    }

    private void otherCounts() {
        broken(28, "RANK by K, L.", "int rankBy(", "otherRow.size", "frame.thereNow");
        broken(28, "RANK by K, L.", "boolean allows(", "i < 2 * MOST_K", "i < 1");
        broken(28, "-4", "int wrongCount(", "k < 1", "k == 0 || k == -1");
        broken(28, "-4", "int wrongCount(", "l < 0", "l == -1");
        broken(28, "-6", "int wrongCount(", "k > MOST_K", "k == 4");
        broken(28, "-6", "int wrongCount(", "k > MOST_K", "k > MOST_K + 1");
        broken(28, "(L above 2 K less 1, too)", "int wrongCount(", "l > 2 * k - 1", "l > 2 * k");
        broken(28, "(L above 2 K less 1, too)", "int wrongCount(", "l > 2 * k - 1", "l > 5");
        broken(0, "K is 1 .. 3, L is 0 .. 2 K less 1", "int wrongCount(", "l > 2 * k - 1", "l > 2 * k - 2");
        broken(0, "K is 1 .. 3, L is 0 .. 2 K less 1", "int wrongCount(", "k > MOST_K", "k >= MOST_K");
        broken(28, "-4; -6 (L above 2 K less 1, too)", "int wrongCount(", "l < 0", "k <= MOST_K && l < 0");
        broken(28, "-4; -6 (L above 2 K less 1, too)", "int wrongCount(", "if (k < 1", "if (l > 5) {\nreturn ROOM;\n}\nif (k < 1");
        refusal(28, "-4", "int rankBy(", "wrong");
        refusal(28, "-6", "int rankBy(", "wrong");
        broken(0, "By 2, 3 it is as in I", "int rankBy(", "play(k, l)", "play(k, Math.min(l, 2))");
        broken(0, "by K, K such sets are K forests together", "int rankBy(", "play(k, l)", "play(k, k == l ? 0 : l)");
        broken(29, "Whether a BAR is KEPT by K, L: 1, 0", "int keptBy(", "play(k, l)", "play(k, 0)");
        broken(29, "-9 CUT", "int keptIn(", "return NONE", "return 0");
        broken(29, "-9 CUT. -1; -4; -6", "int keptBy(", "NOBODY : wrongCount(k, l)", "NOBODY : frame.there[bar] ? wrongCount(k, l) : 0");
        broken(29, "-1", "int keptBy(", "NOBODY", "STATE");
        broken(29, "-1; -4; -6", "int keptBy(", "noBar(bar) ? NOBODY : wrongCount(k, l)",
            "wrongCount(k, l) != 0 ? wrongCount(k, l) : noBar(bar) ? NOBODY : 0");
        broken(29, "-4", "int keptBy(", "wrongCount(k, l)", "Math.abs(wrongCount(k, l)) == 4 ? ROOM : wrongCount(k, l)");
        broken(29, "-6", "int keptBy(", "wrongCount(k, l)", "wrongCount(k, l) == ROOM ? BELOW : wrongCount(k, l)");
        refusal(29, "-4", "int keptBy(", "wrong");
        refusal(30, "-4", "int tight(", "wrong");
        refusal(30, "-6", "int tight(", "wrong");
        broken(30, "-4; -6", "int wrongCount(", "l < 0", "k <= MOST_K && l < 0");
        broken(30, "3 TIGHT and FITS", "int tight(", "(full ? 2 : 0) + ", "");
        broken(30, "2 TIGHT alone", "int tight(", "== frame.thereNow", "<= frame.thereNow");
        broken(30, "1 FITS alone", "int tight(", "== frame.thereNow", "== frame.bars");
        broken(30, "1 FITS alone", "int tight(", "== k * frame.joints - l", ">= k * frame.joints - l");
        broken(30, "0 neither", "int tight(", "== k * frame.joints - l", "<= k * frame.joints - l");
        broken(0, "(not without JOINTS)", "int tight(", "frame.joints > 0 && ", "");
        broken(0, "(not without JOINTS)", "int tight(", "wrongCount(k, l)", "frame.joints == 0 ? STATE : wrongCount(k, l)");
        broken(31, "The least K (1 .. 3) by which, with L as great as K, all FITS", "int forests(", "k <= MOST_K", "k < MOST_K");
        broken(31, "The least K (1 .. 3) by which, with L as great as K, all FITS", "int forests(", "int k = 1", "int k = 2");
        broken(31, "-9 none", "int forests(", "play(k, k)", "play(k, 0)");
        broken(31, "-9 none", "int forests(", "return NONE", "return refuse(STATE)");
    }

    private void barOfAndCount() {
        broken(32, "Of a BAR: 0, 1 its JOINTS", "int barOf(", "return frame.greater[bar]", "return frame.lesser[bar]");
        broken(32, "2 COST", "int barOf(", "return frame.costs[bar]", "return frame.there[bar] ? frame.costs[bar] : 0");
        broken(32, "3 1 if THERE", "int barOf(", "? 1 : 0", "? 1 : NONE");
        refusal(32, "-1", "int barOf(", "NOBODY");
        refusal(32, "-2", "int barOf(", "OTHER");
        broken(32, "-2", "int barOf(", "switch (what)", "switch (what & 255)");
        broken(32, "-1; -2", "int barOf(", "if (noBar(bar))", "if (what < 0 || what > 3) {\nreturn refuse(OTHER);\n}\nif (noBar(bar))");
        broken(33, "0 JOINTS", "int count(", "return frame.joints", "return Math.min(23, frame.joints)");
        broken(33, "1 BARS", "int count(", "return frame.bars", "return frame.thereNow");
        broken(33, "2 those THERE", "int count(", "return frame.thereNow", "return frame.bars");
        broken(33, "2 those THERE", "boolean setThere(", "there[number] == on", "false");
        broken(33, "3 KEPT ones", "int count(", "return rank()", "return frame.thereNow");
        broken(33, "4 SPARE ones", "int count(", "return row.countSpare()", "return frame.thereNow - row.size");
        broken(33, "5 HINGES", "int countHinges(", "v < frame.joints", "v < frame.joints - 1");
        broken(33, "-9 for another what", "int count(", "return NONE", "return refuse(OTHER)");
        broken(33, "-9 for another what", "int count(", "switch (what)", "switch (what & 65535)");
        broken(33, "11 .. 16 REFUSALS -1 .. -6.", "int count(", "<= LAST_REFUSAL", "< LAST_REFUSAL");
        broken(33, "11 .. 16 REFUSALS -1 .. -6.", "int count(", ">= FIRST_REFUSAL", "> FIRST_REFUSAL");
        broken(33, "11 .. 16 REFUSALS -1 .. -6.", "int refuse(", "refused[at]++", "refused[at] = 1");
        broken(0, "nothing changes but how many there were", "int cost(", "return refuse(ROOM)", "frame.bars++;\nreturn refuse(ROOM)");
        broken(0, "at most 512 calls", "class Frame", "int changes;", "byte changes;");
    }

    /** The text with the change in the method that is named, or null if its place is not found. */
    private String changed(Break one) {
        int start = source.indexOf(one.method);
        int at = start < 0 ? -1 : source.indexOf(one.from, start);
        // The same name may be in several classes: the first of them that has the place is meant.
        while (at >= 0 && source.substring(start, at).contains("\n" + indentOf(start) + "}\n")) {
            start = source.indexOf(one.method, start + 1);
            at = start < 0 ? -1 : source.indexOf(one.from, start);
        }
        return at < 0 ? null : source.substring(0, at) + one.to + source.substring(at + one.from.length());
    }

    private String indentOf(int place) {
        int line = source.lastIndexOf('\n', place) + 1;
        int end = line;
        while (source.charAt(end) == ' ') {
            end++;
        }
        return source.substring(line, end);
    }

    private static String run(String... command) throws IOException, InterruptedException {
        Path out = Files.createTempFile("breaks", ".txt");
        Process process = new ProcessBuilder(command).redirectErrorStream(true).redirectOutput(out.toFile()).start();
        boolean ended = process.waitFor(SECONDS, TimeUnit.SECONDS);
        process.destroyForcibly();
        String text = Files.readString(out);
        Files.delete(out);
        return ended ? text : text + "\ndoes not end";
    }

    private String judge(int number, Break one) throws IOException, InterruptedException {
        String text = changed(one);
        if (text == null) {
            return "no such place: " + one.name();
        }
        Path folder = Files.createDirectory(room.resolve("b" + number));
        Path file = folder.resolve("StiffFrames.java");
        Files.writeString(file, text);
        String said = run("javac", "-d", folder.toString(), file.toString());
        if (said.contains("error:")) {
            return "does not compile: " + one.name() + "\n" + said;
        }
        String told = run("java", "-cp", folder + File.pathSeparator + room.resolve("own"), "EdgesTest");
        return told.contains("promise " + one.promise + " \"" + one.words + "\",") ? "" : "not told: " + one.name();
    }

    private boolean judgeAll() throws Exception {
        List<String> command = new ArrayList<>(List.of("javac", "-d", room.resolve("own").toString(), SOURCE.toString()));
        try (var files = Files.list(Path.of("src/test/java"))) {
            files.forEach(file -> command.add(file.toString()));
        }
        System.out.print(run(command.toArray(new String[0])));
        ExecutorService workers = Executors.newFixedThreadPool(Runtime.getRuntime().availableProcessors());
        List<Future<String>> verdicts = new ArrayList<>();
        for (int i = 0; i < breaks.size(); i++) {
            int number = i;
            verdicts.add(workers.submit(() -> judge(number, breaks.get(number))));
        }
        int wrong = 0;
        for (Future<String> verdict : verdicts) {
            if (!verdict.get().isEmpty()) {
                wrong++;
                System.out.println(verdict.get());
            }
        }
        workers.shutdown();
        System.out.println(breaks.size() + " breaks, " + wrong + " not told");
        return wrong == 0;
    }

    public static void main(String[] args) throws Exception {
        Breaks all = new Breaks();
        all.newAndJoint();
        all.bar();
        all.cutAndCost();
        all.rankToStiff();
        all.keptToGrows();
        all.clustersToPieces();
        all.pricesAndMissing();
        all.stepsBack();
        all.bundles();
        all.otherCounts();
        all.barOfAndCount();
        System.exit(all.judgeAll() ? 0 : 1);
    }
}
