/** Edges of what a frame is made of: promises 1 to 5, 32 and 33, and the limits that the terms tell. */
final class FrameEdges extends Edges {
    FrameEdges(Due due, Quotes quotes) {
        super(due, quotes);
    }

    @Override
    void rows() {
        withoutJoints();
        withoutBars();
        joint();
        barNumber();
        barNobody();
        barState();
        barCost();
        eightyBars();
        barOrder();
        cut();
        cost();
        costRefused();
        barOf();
        count();
        refusalsCounted();
        calls512();
    }

    private void withoutJoints() {
        promise(1);
        Make none = StiffFrames::new;
        answers("No JOINTS", "count(0)", none, x -> x.count(0), 0);
        does("No JOINTS", "the first one is 0", none, x -> x.joint(), 0);
        refused("No JOINTS", "bar(0, 1, 0)", none, x -> x.bar(0, 1, 0), -1);
        refused("No JOINTS", "grows(0, 1)", none, x -> x.grows(0, 1), -1);
        refused("No JOINTS", "together(0, 1)", none, x -> x.together(0, 1), -1);
        refused("No JOINTS", "hinge(0)", none, x -> x.hinge(0), -1);
        answers("No JOINTS", "freedom()", none, x -> x.freedom(), 0);
        answers("No JOINTS", "stiff()", none, x -> x.stiff(), 0);
        answers("No JOINTS", "pieces()", none, x -> x.pieces(), 0);
        answers("No JOINTS", "clusters()", none, x -> x.clusters(), 0);
        answers("No JOINTS", "count(5)", none, x -> x.count(5), 0);
        answers("No JOINTS", "fewest()", none, x -> x.fewest(), 0);
        answers("No JOINTS", "fewestAt(0)", none, x -> x.fewestAt(0), -9);
        answers("No JOINTS", "threes()", none, x -> x.threes(), 0);
        for (int what = 0; what <= 2; what++) {
            int asked = what;
            answers("No JOINTS", "back(0, " + what + ")", none, x -> x.back(0, asked), -9);
        }
    }

    private void withoutBars() {
        promise(1);
        Make none = StiffFrames::new;
        for (int what = 1; what <= 4; what++) {
            int asked = what;
            answers("no BARS", "count(" + what + ")", none, x -> x.count(asked), 0);
        }
        does("no BARS", "the first one is 0", () -> joints(2), x -> x.bar(0, 1, 0), 0);
        answers("no BARS", "rank()", none, x -> x.rank(), 0);
        answers("no BARS", "cheapest()", none, x -> x.cheapest(), 0);
        answers("no BARS", "bundles()", none, x -> x.bundles(), 0);
        answers("no BARS", "forests()", none, x -> x.forests(), 1);
        refused("no BARS", "cut(0, true)", none, x -> x.cut(0, true), -1);
        refused("no BARS", "cut(0, false)", none, x -> x.cut(0, false), -1);
        refused("no BARS", "cost(0, 0)", none, x -> x.cost(0, 0), -1);
        refused("no BARS", "kept(0)", none, x -> x.kept(0), -1);
        refused("no BARS", "spare(0)", none, x -> x.spare(0), -1);
        refused("no BARS", "circuit(0)", none, x -> x.circuit(0), -1);
        refused("no BARS", "circuitBar(0, 0)", none, x -> x.circuitBar(0, 0), -1);
        refused("no BARS", "cheap(0)", none, x -> x.cheap(0), -1);
        refused("no BARS", "bundle(0)", none, x -> x.bundle(0), -1);
        refused("no BARS", "keptBy(0, 1, 1)", none, x -> x.keptBy(0, 1, 1), -1);
        refused("no BARS", "barOf(0, 0)", none, x -> x.barOf(0, 0), -1);
        refused("no BARS", "size(0)", none, x -> x.size(0), -1);
        refused("no BARS", "member(0, 0)", none, x -> x.member(0, 0), -1);
    }

    private void joint() {
        promise(2);
        for (int number = 0; number < 24; number++) {
            int ahead = number;
            does("A JOINT: its number.", "with " + number + " ahead of it", () -> joints(ahead), x -> x.joint(), number);
        }
        refused("-6 there are 24", "the 25th", () -> joints(24), x -> x.joint(), -6);
        refused("-6 there are 24", "the 25th, with 80 bars", () -> full(), x -> x.joint(), -6);
        does("-6 there are 24", "the 24th, with 80 bars", () -> wide(23, 80, 0), x -> x.joint(), 23);
        promise(0);
        answers("24 at most", "count(0)", () -> joints(24), x -> x.count(0), 24);
    }

    private void barNumber() {
        promise(3);
        does("A BAR, THERE: its number.", "the first", () -> joints(2), x -> x.bar(0, 1, 0), 0);
        does("A BAR, THERE: its number.", "the next", () -> frame(3, 1), x -> x.bar(1, 2, 0), 1);
        does("A BAR, THERE: its number.", "behind a cut one", () -> withCut(frame(3, 1), 0), x -> x.bar(1, 2, 0), 1);
        does("A BAR, THERE: its number.", "between the last joints", () -> joints(24), x -> x.bar(23, 22, 0), 0);
        answers("A BAR, THERE: its number.", "it is there", () -> oneBar(), x -> x.barOf(0, 3), 1);
        promise(0);
        answers("the lesser one first", "told so", () -> frame(2, 1), x -> x.barOf(0, 0), 0);
        answers("the lesser one first", "told the other way", () -> frame(2, 100), x -> x.barOf(0, 0), 0);
        answers("the lesser one first", "the other one", () -> frame(2, 100), x -> x.barOf(0, 1), 1);
    }

    private void barNobody() {
        promise(3);
        for (int n : new int[] {1, 3, 24}) {
            for (int joint : outside(n)) {
                refused("-1", "bar(" + joint + ", 0, 0) of " + n, () -> joints(n), x -> x.bar(joint, 0, 0), -1);
                refused("-1", "bar(0, " + joint + ", 0) of " + n, () -> joints(n), x -> x.bar(0, joint, 0), -1);
                refused("-1", "bar(" + joint + ", same, 0) of " + n, () -> joints(n), x -> x.bar(joint, joint, 0), -1);
            }
            for (int joint = 0; joint < n; joint++) {
                int one = joint;
                refused("(also if they are one)", one + " of " + n, () -> joints(n), x -> x.bar(one, one, 0), -1);
            }
        }
    }

    private void barState() {
        promise(3);
        String words = "-3 there is one between them";
        refused(words, "the same way", () -> oneBar(), x -> x.bar(0, 1, 0), -3);
        refused(words, "the other way", () -> oneBar(), x -> x.bar(1, 0, 0), -3);
        refused(words, "a cut one", () -> withCut(oneBar(), 0), x -> x.bar(0, 1, 0), -3);
        refused(words, "a cut one, the other way", () -> withCut(oneBar(), 0), x -> x.bar(1, 0, 0), -3);
        refused(words, "the last joints", () -> frame(24, 2223), x -> x.bar(22, 23, 0), -3);
        refused(words, "the first and the last joint", () -> frame(24, 23), x -> x.bar(23, 0, 0), -3);
        does(words, "none between 0 and 2", () -> frame(3, 1, 102), x -> x.bar(0, 2, 0), 2);
        promise(0);
        refused("at most one between two", "with another cost", () -> oneBar(), x -> x.bar(0, 1, 999), -3);
    }

    private void barCost() {
        promise(3);
        refused("-4", "cost -1", () -> joints(2), x -> x.bar(0, 1, -1), -4);
        refused("-4", "cost LOW", () -> joints(2), x -> x.bar(0, 1, LOW), -4);
        refused("-6", "cost 1000", () -> joints(2), x -> x.bar(0, 1, 1000), -6);
        refused("-6", "cost HIGH", () -> joints(2), x -> x.bar(0, 1, HIGH), -6);
        refused("-6", "cost 65536", () -> joints(2), x -> x.bar(0, 1, 65536), -6);
        promise(0);
        does("a COST (0 .. 999)", "0", () -> joints(2), x -> x.bar(0, 1, 0), 0);
        does("a COST (0 .. 999)", "999", () -> joints(2), x -> x.bar(0, 1, 999) + x.barOf(0, 2), 999);
    }

    private void eightyBars() {
        promise(3);
        does("(80, too)", "the 80th", () -> wide(24, 79, 0), x -> x.bar(22, 0, 0), 79);
        refused("(80, too)", "the 81st", () -> full(), x -> x.bar(22, 0, 0), -6);
        refused("(80, too)", "the 81st of 14 joints", () -> wide(14, 80, 0), x -> x.bar(0, 13, 0), -6);
        refused("(80, too)", "with one cut", () -> withCut(full(), 79), x -> x.bar(22, 0, 0), -6);
        refused("(80, too)", "and a cost above", () -> full(), x -> x.bar(22, 0, 1000), -6);
        promise(0);
        answers("80 at most", "count(1)", () -> full(), x -> x.count(1), 80);
        answers("80 at most", "all in use", () -> full(), x -> x.count(2), 80);
    }

    /** Of two refusals that fit, the one that the promise tells first. */
    private void barOrder() {
        promise(3);
        String words = "-1 (also if they are one); -3 there is one between them; -4; -6 (80, too)";
        first(words, "nobody ahead of below", () -> joints(2), x -> x.bar(0, 2, -1), -1);
        first(words, "one joint ahead of below", () -> joints(2), x -> x.bar(1, 1, -1), -1);
        first(words, "nobody ahead of above", () -> joints(2), x -> x.bar(2, 0, 1000), -1);
        first(words, "one joint ahead of above", () -> joints(2), x -> x.bar(0, 0, 1000), -1);
        first(words, "nobody ahead of 80", () -> full(), x -> x.bar(24, 0, 0), -1);
        first(words, "one joint ahead of 80", () -> full(), x -> x.bar(9, 9, 0), -1);
        first(words, "state ahead of below", () -> oneBar(), x -> x.bar(0, 1, -1), -3);
        first(words, "state ahead of above", () -> oneBar(), x -> x.bar(0, 1, 1000), -3);
        first(words, "state ahead of 80", () -> full(), x -> x.bar(0, 1, 0), -3);
        first(words, "below ahead of 80", () -> full(), x -> x.bar(22, 0, -1), -4);
        promise(0);
        refused("the first that fits in the order in which it tells them", "all four", () -> full(), x -> x.bar(0, 0, -1), -1);
    }

    private void cut() {
        promise(4);
        String words = "A BAR is CUT, or THERE again: 1";
        does(words, "cut", () -> oneBar(), x -> x.cut(0, true), 1);
        does(words, "there again", () -> withCut(oneBar(), 0), x -> x.cut(0, false), 1);
        does(words, "the 80th", () -> full(), x -> x.cut(79, true), 1);
        does(words, "the 80th again", () -> withCut(full(), 79), x -> x.cut(79, false), 1);
        answers("0 if it was so", "a new one is there", () -> oneBar(), x -> x.cut(0, false), 0);
        answers("0 if it was so", "cut twice", () -> withCut(oneBar(), 0), x -> x.cut(0, true), 0);
        answers("0 if it was so", "the 80th is there", () -> full(), x -> x.cut(79, false), 0);
        for (int bar : outside(1)) {
            refused("-1", "cut(" + bar + ", true)", () -> oneBar(), x -> x.cut(bar, true), -1);
            refused("-1", "cut(" + bar + ", false)", () -> withCut(oneBar(), 0), x -> x.cut(bar, false), -1);
        }
        for (int bar : outside(80)) {
            refused("-1", "cut(" + bar + ", true) of 80", () -> full(), x -> x.cut(bar, true), -1);
        }
    }

    private void cost() {
        promise(5);
        Make make = () -> costs(7, 0, 999);
        does("COST: what it was.", "7", make, x -> x.cost(0, 8), 7);
        does("COST: what it was.", "the least", make, x -> x.cost(1, 8), 0);
        does("COST: what it was.", "the greatest", make, x -> x.cost(2, 8), 999);
        answers("COST: what it was.", "the same again", make, x -> x.cost(0, 7), 7);
        does("COST: what it was.", "the one before", make, x -> x.cost(0, 8) + 1000 * x.cost(0, 9), 8007);
        does("COST: what it was.", "of a cut one", () -> withCut(costs(7), 0), x -> x.cost(0, 8), 7);
        does("COST: what it was.", "of the 80th", () -> full(), x -> x.cost(79, 8), 999);
        does("COST: what it was.", "to the least", make, x -> x.cost(0, 0) + x.barOf(0, 2), 7);
        does("COST: what it was.", "to the greatest", make, x -> x.cost(0, 999) + x.barOf(0, 2), 1006);
        does("COST: what it was.", "the others stay", make, x -> x.cost(1, 5) + x.barOf(0, 2) + x.barOf(2, 2), 1006);
    }

    /** A bar of each cost, side by side. */
    private static StiffFrames costs(int... costs) {
        StiffFrames x = joints(costs.length + 1);
        for (int i = 0; i < costs.length; i++) {
            x.bar(i, i + 1, costs[i]);
        }
        return x;
    }

    private void costRefused() {
        promise(5);
        for (int bar : outside(2)) {
            refused("-1", "cost(" + bar + ", 5)", () -> costs(7, 7), x -> x.cost(bar, 5), -1);
        }
        refused("-1", "cost(80, 5) of 80", () -> full(), x -> x.cost(80, 5), -1);
        refused("-4", "cost(0, -1)", () -> costs(7), x -> x.cost(0, -1), -4);
        refused("-4", "cost(0, LOW)", () -> costs(7), x -> x.cost(0, LOW), -4);
        refused("-4", "of a cut one", () -> withCut(costs(7), 0), x -> x.cost(0, -1), -4);
        refused("-6", "cost(0, 1000)", () -> costs(7), x -> x.cost(0, 1000), -6);
        refused("-6", "cost(0, HIGH)", () -> costs(7), x -> x.cost(0, HIGH), -6);
        first("-1; -4; -6", "nobody ahead of below", () -> costs(7), x -> x.cost(1, -1), -1);
        first("-1; -4; -6", "nobody ahead of above", () -> costs(7), x -> x.cost(-1, 1000), -1);
    }

    private void barOf() {
        promise(32);
        Make make = () -> withCut(costs(7, 0, 999), 2);
        answers("Of a BAR: 0, 1 its JOINTS", "0", make, x -> x.barOf(2, 0), 2);
        answers("Of a BAR: 0, 1 its JOINTS", "1", make, x -> x.barOf(2, 1), 3);
        answers("Of a BAR: 0, 1 its JOINTS", "0 of the last joints", () -> frame(24, 2322), x -> x.barOf(0, 0), 22);
        answers("Of a BAR: 0, 1 its JOINTS", "1 of the last joints", () -> frame(24, 2322), x -> x.barOf(0, 1), 23);
        answers("2 COST", "of the least", make, x -> x.barOf(1, 2), 0);
        answers("2 COST", "of the greatest, cut", make, x -> x.barOf(2, 2), 999);
        answers("2 COST", "of the 80th", () -> full(), x -> x.barOf(79, 2), 999);
        answers("3 1 if THERE", "there", make, x -> x.barOf(1, 3), 1);
        answers("3 1 if THERE", "cut", make, x -> x.barOf(2, 3), 0);
        does("3 1 if THERE", "there again", make, x -> x.cut(2, false) + x.barOf(2, 3), 2);
        for (int bar : outside(3)) {
            refused("-1", "barOf(" + bar + ", 0)", make, x -> x.barOf(bar, 0), -1);
        }
        refused("-1", "barOf(80, 0) of 80", () -> full(), x -> x.barOf(80, 0), -1);
        for (int what : outside(4)) {
            refused("-2", "barOf(0, " + what + ")", make, x -> x.barOf(0, what), -2);
            first("-1; -2", "nobody ahead of what " + what, make, x -> x.barOf(3, what), -1);
        }
    }

    private void count() {
        promise(33);
        Make make = () -> withCut(twoSquares(), 0);
        answers("0 JOINTS", "of two squares", make, x -> x.count(0), 8);
        answers("0 JOINTS", "none", () -> joints(0), x -> x.count(0), 0);
        answers("0 JOINTS", "full", () -> full(), x -> x.count(0), 24);
        answers("1 BARS", "cut ones too", make, x -> x.count(1), 13);
        answers("1 BARS", "none", () -> joints(24), x -> x.count(1), 0);
        answers("1 BARS", "full", () -> withCut(full(), 0, 79), x -> x.count(1), 80);
        answers("2 those THERE", "one cut", make, x -> x.count(2), 12);
        answers("2 those THERE", "all cut", () -> withCut(triangle(), 0, 1, 2), x -> x.count(2), 0);
        answers("2 those THERE", "cut twice", () -> withCut(triangle(), 0, 0), x -> x.count(2), 2);
        answers("3 KEPT ones", "one left", make, x -> x.count(3), 11);
        answers("3 KEPT ones", "full", () -> full(), x -> x.count(3), 45);
        answers("3 KEPT ones", "all cut", () -> withCut(triangle(), 0, 1, 2), x -> x.count(3), 0);
        answers("4 SPARE ones", "in one square", make, x -> x.count(4), 6);
        answers("4 SPARE ones", "none", () -> strip(24, 0), x -> x.count(4), 0);
        answers("4 SPARE ones", "all of 46", () -> greatCircuit(), x -> x.count(4), 46);
        answers("5 HINGES", "two", make, x -> x.count(5), 2);
        answers("5 HINGES", "none", () -> strip(24, 0), x -> x.count(5), 0);
        answers("5 HINGES", "all", () -> spokes(), x -> x.count(5), 24);
        for (int what : new int[] {-1, -9, -11, 6, 7, 8, 9, 10, 17, 18, 256 + 11, 65536, LOW, LOW + 10, HIGH}) {
            answers("-9 for another what", "count(" + what + ")", make, x -> x.count(what), -9);
        }
    }

    private void refusalsCounted() {
        promise(33);
        String words = "11 .. 16 REFUSALS -1 .. -6.";
        for (int what = 11; what <= 16; what++) {
            int asked = what;
            answers(words, "count(" + what + ") of none", () -> twoSquares(), x -> x.count(asked), 0);
        }
        Make make = () -> refusedOften();
        int[] due = {1, 2, 3, 4, 0, 5};
        for (int i = 0; i < due.length; i++) {
            int asked = 11 + i;
            answers(words, "count(" + asked + ") of some", make, x -> x.count(asked), due[i]);
        }
        told(words, "511 times -1", nobody(511).count(11), 511);
        promise(0);
        does("nothing changes but how many there were", "a bar after them", make, x -> x.bar(0, 2, 5), 1);
    }

    private static StiffFrames nobody(int times) {
        StiffFrames x = new StiffFrames();
        for (int i = 0; i < times; i++) {
            x.kept(0);
        }
        return x;
    }

    private static StiffFrames refusedOften() {
        StiffFrames x = frame(3, 1);
        for (int i = 0; i < 5; i++) {
            if (i < 1) {
                x.hinge(3);
            }
            if (i < 2) {
                x.back(0, 3);
            }
            if (i < 3) {
                x.circuit(0);
            }
            if (i < 4) {
                x.tight(0, 0);
            }
            x.cost(0, 1000);
        }
        return x;
    }

    private void calls512() {
        promise(0);
        told("at most 512 calls", "the 512th", used(511).rank(), 2);
        told("at most 512 calls", "256 changes between two looks", lookedAtLate().rank(), 2);
        told("at most 512 calls", "the 512th, a joint", used(511).joint(), 3);
    }

    /** So many changes that a narrow counter of them would be where it was. */
    private static StiffFrames lookedAtLate() {
        StiffFrames x = triangle();
        x.rank();
        for (int i = 0; i < 255; i++) {
            x.cut(2, i % 2 == 0);
        }
        x.cost(0, 1);
        return x;
    }

    /** Some calls, of which every other one changes the frame; at the end bar 2 is cut. */
    private static StiffFrames used(int calls) {
        StiffFrames x = triangle();
        boolean on = true;
        for (int i = 6; i < calls - 1; i += 2) {
            x.cut(2, on);
            x.clusters();
            on = !on;
        }
        x.cut(2, true);
        return x;
    }
}
