/** Edges of clusters, hinges, pieces, steps back and bundles: promises 14 to 19 and 24 to 27. */
final class PartEdges extends Edges {
    PartEdges(Due due, Quotes quotes) {
        super(due, quotes);
    }

    @Override
    void rows() {
        clusters();
        clustersInOrder();
        size();
        member();
        together();
        hinge();
        pieces();
        backJoints();
        backSteps();
        backBars();
        backNone();
        threes();
        bundles();
        bundle();
    }

    private void clusters() {
        promise(14);
        String words = "How many CLUSTERS there are.";
        answers(words, "no joints", () -> joints(0), x -> x.clusters(), 0);
        answers(words, "one joint", () -> joints(1), x -> x.clusters(), 0);
        answers(words, "no bars", () -> joints(24), x -> x.clusters(), 0);
        answers(words, "a bar", () -> oneBar(), x -> x.clusters(), 1);
        answers(words, "a cut bar", () -> withCut(oneBar(), 0), x -> x.clusters(), 0);
        answers(words, "freedom 4", () -> square(), x -> x.clusters(), 4);
        answers(words, "one of all 24", () -> strip(24, 0), x -> x.clusters(), 1);
        answers(words, "one of all 24, with 80 bars", () -> full(), x -> x.clusters(), 1);
        answers(words, "the most", () -> spokes(), x -> x.clusters(), 44);
        promise(0);
        String two = "a greatest set of two or more JOINTS";
        answers(two, "a joint alone is none", () -> frame(3, 1), x -> x.clusters(), 1);
        answers(two, "no bar between two of them", () -> frame(4, 2, 3, 102, 103, 203), x -> x.clusters(), 1);
        String one = "two CLUSTERS have one JOINT in common at most";
        answers(one, "two triangles at a joint", () -> frame(5, 1, 2, 102, 203, 204, 304), x -> x.clusters(), 2);
        answers(one, "two triangles at a bar", () -> frame(4, 1, 2, 102, 103, 203), x -> x.clusters(), 1);
    }

    private void clustersInOrder() {
        promise(0);
        String words = "CLUSTERS are numbered by their least JOINT, then by the next one";
        answers(words, "by the least, not by the bars", () -> frame(4, 203, 1), x -> x.member(0, 0), 0);
        answers(words, "by the next one", () -> frame(4, 3, 2, 1), x -> x.member(0, 1), 1);
        answers(words, "by the next one, the last", () -> frame(4, 3, 2, 1), x -> x.member(2, 1), 3);
        answers(words, "not by size", () -> frame(5, 203, 204, 304, 1), x -> x.size(0), 2);
        answers(words, "the 22nd of 44", () -> spokes(), x -> 100 * x.member(21, 0) + x.member(21, 1), 23);
        answers(words, "the 23rd of 44", () -> spokes(), x -> 100 * x.member(22, 0) + x.member(22, 1), 102);
    }

    private void size() {
        promise(15);
        String words = "How many JOINTS CLUSTER i has.";
        answers(words, "the least", () -> oneBar(), x -> x.size(0), 2);
        answers(words, "the greatest", () -> strip(24, 0), x -> x.size(0), 24);
        answers(words, "the last of 44", () -> spokes(), x -> x.size(43), 2);
        answers(words, "one of four", () -> twoSquares(), x -> x.size(2), 4);
        for (int i : outside(3)) {
            refused("-1", "size(" + i + ")", () -> twoSquares(), x -> x.size(i), -1);
        }
        refused("-1", "no clusters", () -> joints(24), x -> x.size(0), -1);
        refused("-1", "the 45th of 44", () -> spokes(), x -> x.size(44), -1);
        refused("-1", "all cut", () -> withCut(oneBar(), 0), x -> x.size(0), -1);
        refused("-1", "told before, cut now", () -> toldThenCut(), x -> x.size(0), -1);
    }

    private static StiffFrames toldThenCut() {
        StiffFrames x = oneBar();
        x.size(0);
        x.cut(0, true);
        return x;
    }

    private void member() {
        promise(16);
        String words = "The k-th JOINT of it, by numbers";
        answers(words, "the first", () -> twoSquares(), x -> x.member(2, 0), 3);
        answers(words, "the last", () -> twoSquares(), x -> x.member(2, 3), 6);
        answers(words, "past those between", () -> twoSquares(), x -> x.member(1, 1), 7);
        answers(words, "the 24th", () -> strip(24, 0), x -> x.member(0, 23), 23);
        answers(words, "the last of 44", () -> spokes(), x -> x.member(43, 1), 23);
        for (int k : outside(4)) {
            answers("-9 there is none such", "member(2, " + k + ")", () -> twoSquares(), x -> x.member(2, k), -9);
            first("-9 there is none such. -1", "nobody ahead of none, " + k, () -> twoSquares(), x -> x.member(3, k), -1);
        }
        answers("-9 there is none such", "the 25th of 24", () -> strip(24, 0), x -> x.member(0, 24), -9);
        answers("-9 there is none such", "the third of two", () -> spokes(), x -> x.member(43, 2), -9);
        for (int i : outside(3)) {
            refused("-1", "member(" + i + ", 0)", () -> twoSquares(), x -> x.member(i, 0), -1);
        }
        refused("-1", "no clusters", () -> joints(24), x -> x.member(0, 0), -1);
        refused("-1", "the 45th of 44", () -> spokes(), x -> x.member(44, 0), -1);
    }

    private void together() {
        promise(17);
        String words = "The least CLUSTER of which both JOINTS are";
        answers(words, "a bar", () -> oneBar(), x -> x.together(0, 1), 0);
        answers(words, "the other way", () -> oneBar(), x -> x.together(1, 0), 0);
        answers(words, "a hinge and another", () -> twoSquares(), x -> x.together(3, 6), 2);
        answers(words, "a hinge and one of the first", () -> twoSquares(), x -> x.together(3, 0), 0);
        answers(words, "no bar between them", () -> strip(24, 0), x -> x.together(0, 23), 0);
        answers(words, "the last of 44", () -> spokes(), x -> x.together(23, 1), 43);
        answers("-9 none", "no bars", () -> joints(24), x -> x.together(22, 23), -9);
        answers("-9 none", "a cut bar", () -> withCut(oneBar(), 0), x -> x.together(0, 1), -9);
        answers("-9 none", "two clusters", () -> twoSquares(), x -> x.together(2, 4), -9);
        answers("-9 none", "44 clusters", () -> spokes(), x -> x.together(0, 1), -9);
        answers("-9 none", "a joint of none", () -> frame(3, 1), x -> x.together(1, 2), -9);
        for (int n : new int[] {3, 24}) {
            for (int joint : outside(n)) {
                refused("-1", "together(" + joint + ", 0) of " + n, () -> frame(n, 1), x -> x.together(joint, 0), -1);
                refused("-1", "together(0, " + joint + ") of " + n, () -> frame(n, 1), x -> x.together(0, joint), -1);
            }
            for (int joint = 0; joint < n; joint++) {
                int one = joint;
                refused("-1 (also if they are one)", one + " of " + n, () -> frame(n, 1), x -> x.together(one, one), -1);
            }
        }
    }

    private void hinge() {
        promise(18);
        String words = "Whether a JOINT is a HINGE: 1, 0.";
        answers(words, "of no cluster", () -> joints(1), x -> x.hinge(0), 0);
        answers(words, "of one", () -> oneBar(), x -> x.hinge(0), 0);
        answers(words, "of two", () -> frame(3, 1, 102), x -> x.hinge(1), 1);
        answers(words, "of two, one cut", () -> withCut(frame(3, 1, 102), 1), x -> x.hinge(1), 0);
        answers(words, "of two bars in one cluster", () -> triangle(), x -> x.hinge(1), 0);
        answers(words, "of 22", () -> spokes(), x -> x.hinge(0), 1);
        answers(words, "the last joint, of two", () -> spokes(), x -> x.hinge(23), 1);
        answers(words, "the last joint, of one", () -> full(), x -> x.hinge(23), 0);
        for (int n : new int[] {3, 24}) {
            for (int joint : outside(n)) {
                refused("-1", "hinge(" + joint + ") of " + n, () -> frame(n, 1, 2), x -> x.hinge(joint), -1);
            }
        }
    }

    private void pieces() {
        promise(19);
        String words = "How many PIECES there are.";
        answers(words, "no joints", () -> joints(0), x -> x.pieces(), 0);
        answers(words, "one joint", () -> joints(1), x -> x.pieces(), 1);
        answers(words, "the most", () -> joints(24), x -> x.pieces(), 24);
        answers(words, "a bar", () -> oneBar(), x -> x.pieces(), 1);
        answers(words, "a cut bar", () -> withCut(oneBar(), 0), x -> x.pieces(), 2);
        answers(words, "a ring, one cut", () -> withCut(triangle(), 0), x -> x.pieces(), 1);
        answers(words, "a ring, two cut", () -> withCut(triangle(), 0, 1), x -> x.pieces(), 2);
        answers(words, "all of 24 in one", () -> full(), x -> x.pieces(), 1);
        answers(words, "one loose of 24", () -> withCut(full(), 22, 44, 65), x -> x.pieces(), 2);
        answers(words, "twelve bars apart", () -> frame(24, 1, 203, 405, 607, 809, 1011, 1213, 1415, 1617, 1819, 2021, 2223),
            x -> x.pieces(), 12);
    }

    private void backJoints() {
        promise(24);
        String words = "STEPS BACK: the i-th JOINT that goes (what 0)";
        answers(words, "one joint", () -> joints(1), x -> x.back(0, 0), 0);
        answers(words, "the last of 24", () -> joints(24), x -> x.back(23, 0), 23);
        answers(words, "the last of 24, full", () -> full(), x -> x.back(23, 0), 23);
        answers(words, "none of cut bars", () -> withCut(frame(3, 1, 102), 0), x -> x.back(0, 0), 0);
        promise(0);
        answers("a JOINT with no BAR of these goes at once", "its number is the greatest", () -> frame(3, 1), x -> x.back(0, 0), 2);
        answers("of several the least number", "all with one", () -> frame(4, 203, 1), x -> x.back(0, 0), 0);
        answers("the JOINT of the fewest BARS", "the last", () -> frame(4, 1, 2, 102, 203), x -> x.back(0, 0), 3);
        answers("the JOINT of the fewest BARS", "one between", () -> frame(4, 2, 3, 203, 102), x -> x.back(0, 0), 1);
        answers("of the KEPT BARS alone", "a bar that is left is none", () -> lastLeft(), x -> x.back(0, 0), 2);
        answers("till none is left", "the last one has no bar", () -> triangle(), x -> 10 * x.back(2, 0) + x.back(2, 1), 20);
    }

    /** All bars of four joints: each has three, but one between 2 and 3 is left. */
    private static StiffFrames lastLeft() {
        return frame(4, 1, 2, 102, 3, 103, 203);
    }

    private void backSteps() {
        promise(24);
        String words = "its STEP (1)";
        answers(words, "no bar", () -> joints(1), x -> x.back(0, 1), 0);
        answers(words, "no bar, the 24th", () -> joints(24), x -> x.back(23, 1), 0);
        answers(words, "the last of 24, full", () -> full(), x -> x.back(23, 1), 0);
        answers(words, "the last but one of 24, full", () -> full(), x -> x.back(22, 1), 1);
        promise(0);
        answers("with one: it goes with that BAR (a STEP 1)", "a bar", () -> oneBar(), x -> x.back(0, 1), 1);
        answers("with one: it goes with that BAR (a STEP 1)", "the bar went", () -> oneBar(), x -> x.back(1, 1), 0);
        answers("with two: it goes with these (STEP 2)", "a triangle", () -> triangle(), x -> x.back(0, 1), 2);
        answers("with two: it goes with these (STEP 2)", "both went", () -> triangle(), x -> x.back(1, 1), 1);
        answers("with three: it goes with these", "three and three", () -> threeAndThree(), x -> x.back(0, 1), 3);
        answers("with three: it goes with these", "all three went", () -> threeAndThree(), x -> x.back(1, 1), 2);
        answers("a BAR comes between", "it stands from then on", () -> prism(), x -> x.back(1, 0), 2);
    }

    /** Two triangles with three bars between them: bars are between the first two neighbours of 0. */
    private static StiffFrames prism() {
        return frame(6, 1, 2, 102, 304, 305, 405, 3, 104, 205);
    }

    private void backBars() {
        promise(24);
        String words = "the BAR that comes (2: 100 times the lesser and the greater JOINT";
        answers(words, "three and three", () -> threeAndThree(), x -> x.back(0, 2), 304);
        promise(0);
        String order = "first with second, then first with third, then second with third";
        answers(order, "first with second", () -> threeAndThree(), x -> x.back(0, 2), 304);
        answers(order, "first with third", () -> prism(), x -> x.back(0, 2), 103);
        answers(order, "second with third", () -> twoBodies(), x -> x.back(0, 2), 203);
        answers("what is left stays FREE", "stiff without a bar between", () -> stiffNeighbours(), x -> x.back(0, 2), 105);
        answers("between which none is", "one is left there", () -> withBar(threeAndThree(), 3, 4), x -> x.back(0, 2), 304);
        answers("between which none is", "one is cut there", () -> withCut(withBar(threeAndThree(), 3, 4), 9), x -> x.back(0, 2), 304);
        promise(24);
        answers("-9 none", "no bar", () -> joints(1), x -> x.back(0, 2), -9);
        answers("-9 none", "step 1", () -> oneBar(), x -> x.back(0, 2), -9);
        answers("-9 none", "step 2", () -> triangle(), x -> x.back(0, 2), -9);
        answers("-9 none", "behind a step 3", () -> threeAndThree(), x -> x.back(1, 2), -9);
        answers("-9 none", "the last of 24", () -> full(), x -> x.back(23, 2), -9);
    }

    private static StiffFrames withBar(StiffFrames x, int a, int b) {
        x.bar(a, b, 0);
        return x;
    }

    /** Two stiff parts of four joints, three bars between them; the second and the third neighbour of 0 have no bar. */
    private static StiffFrames twoBodies() {
        return frame(8, 1, 2, 3, 102, 103, 405, 406, 407, 506, 507, 206, 307, 105);
    }

    /** The first two neighbours of joint 0 have no bar between them but are of one stiff part. */
    private static StiffFrames stiffNeighbours() {
        return frame(9, 103, 104, 203, 204, 304, 507, 508, 607, 608, 708, 1, 2, 5, 106, 307);
    }

    private void backNone() {
        promise(24);
        String words = "-9 there is none such";
        for (int what = 0; what <= 2; what++) {
            int asked = what;
            for (int i : outside(3)) {
                answers(words, "back(" + i + ", " + what + ")", () -> triangle(), x -> x.back(i, asked), -9);
            }
            answers(words, "no joints, what " + what, () -> joints(0), x -> x.back(0, asked), -9);
            answers(words, "the 25th of 24, what " + what, () -> full(), x -> x.back(24, asked), -9);
        }
        for (int what : outside(3)) {
            refused("-2", "back(0, " + what + ")", () -> triangle(), x -> x.back(0, what), -2);
            refused("-2", "no joints, what " + what, () -> joints(0), x -> x.back(0, what), -2);
            first("-9 there is none such. -2", "other ahead of none, " + what, () -> triangle(), x -> x.back(3, what), -2);
            first("-9 there is none such. -2", "other ahead of below, " + what, () -> triangle(), x -> x.back(-1, what), -2);
        }
    }

    private void threes() {
        promise(25);
        String words = "How many STEPS 3 there are.";
        answers(words, "no joints", () -> joints(0), x -> x.threes(), 0);
        answers(words, "no bars", () -> joints(24), x -> x.threes(), 0);
        answers(words, "twos alone", () -> strip(24, 0), x -> x.threes(), 0);
        answers(words, "one", () -> threeAndThree(), x -> x.threes(), 1);
        answers(words, "two apart", () -> frame(12, 3, 4, 5, 103, 104, 105, 203, 204, 205,
            609, 610, 611, 709, 710, 711, 809, 810, 811), x -> x.threes(), 2);
        answers(words, "one, with a bar cut", () -> withCut(threeAndThree(), 8), x -> x.threes(), 0);
        answers(words, "bars that are left are none", () -> full(), x -> x.threes(), 0);
    }

    private void bundles() {
        promise(26);
        String words = "How many BUNDLES there are.";
        answers(words, "no joints", () -> joints(0), x -> x.bundles(), 0);
        answers(words, "no bars", () -> joints(24), x -> x.bundles(), 0);
        answers(words, "all cut", () -> withCut(triangle(), 0, 1, 2), x -> x.bundles(), 0);
        answers(words, "one bar", () -> oneBar(), x -> x.bundles(), 1);
        answers(words, "the least circuit", () -> allBars(4), x -> x.bundles(), 1);
        answers(words, "the longest circuit", () -> greatCircuit(), x -> x.bundles(), 1);
        answers(words, "80 in one", () -> full(), x -> x.bundles(), 1);
        answers(words, "the most", () -> strip(24, 0), x -> x.bundles(), 45);
        promise(0);
        answers("who is in no CIRCUIT is a BUNDLE alone", "one bar beside", () -> twoSquares(), x -> x.bundles(), 3);
        answers("or both of one BUNDLE with a third one", "two circuits with a bar", () -> atOneBar(), x -> x.bundles(), 1);
        answers("or both of one BUNDLE with a third one", "a later one joins them", () -> joinedLate(), x -> x.bundle(6), 0);
        answers("or both of one BUNDLE with a third one", "two at a joint", () -> twoSquares(), x -> x.bundle(11), 1);
    }

    /** All bars of joints 0 1 2 3 and of 2 3 4 5: the bar between 2 and 3 is of both. */
    private static StiffFrames atOneBar() {
        return frame(6, 1, 2, 3, 102, 103, 203, 204, 205, 304, 305, 405);
    }

    /** Bars 1 to 6 are one bundle by bar 6, and bar 10 joins them, by bar 1, to bar 0. */
    private static StiffFrames joinedLate() {
        return frame(6, 405, 203, 2, 3, 102, 103, 1, 204, 205, 304, 305);
    }

    private void bundle() {
        promise(27);
        String words = "The BUNDLE of a BAR";
        answers(words, "one alone", () -> oneBar(), x -> x.bundle(0), 0);
        answers(words, "the last of 45", () -> strip(24, 0), x -> x.bundle(44), 44);
        answers(words, "the 80th", () -> full(), x -> x.bundle(79), 0);
        answers(words, "by their least bars", () -> frame(6, 405, 1, 2, 3, 102, 103, 203), x -> x.bundle(6), 1);
        answers(words, "a cut one has no number", () -> withCut(frame(3, 1, 102), 0), x -> x.bundle(1), 0);
        answers(words, "through a third one", () -> atOneBar(), x -> x.bundle(10), 0);
        answers("-9 CUT", "cut", () -> withCut(oneBar(), 0), x -> x.bundle(0), -9);
        answers("-9 CUT", "cut in a circuit", () -> withCut(allBars(4), 2), x -> x.bundle(2), -9);
        answers("-9 CUT", "the 80th", () -> withCut(full(), 79), x -> x.bundle(79), -9);
        for (int bar : outside(6)) {
            refused("-1", "bundle(" + bar + ")", () -> allBars(4), x -> x.bundle(bar), -1);
        }
        refused("-1", "bundle(80) of 80", () -> full(), x -> x.bundle(80), -1);
    }
}
