/** Edges of the other counts: promises 28 to 31. */
final class OtherEdges extends Edges {
    private static final int WRAPS_TO_TWO = LOW + 1;
    private static final int WRAPS_BELOW = 1 << 30;

    private interface AskBy {
        int of(StiffFrames x, int k, int l);
    }

    OtherEdges(Due due, Quotes quotes) {
        super(due, quotes);
    }

    @Override
    void rows() {
        rankBy();
        keptBy();
        tight();
        tightAtTheEdge();
        forests();
        promise(28);
        wrongCounts("-4", "-6", "(L above 2 K less 1, too)", (x, k, l) -> x.rankBy(k, l));
        ahead("-4; -6 (L above 2 K less 1, too)", (x, k, l) -> x.rankBy(k, l));
        promise(29);
        wrongCounts("-4", "-6", "-6", (x, k, l) -> x.keptBy(0, k, l));
        wrongCounts("-4", "-6", "-6", (x, k, l) -> x.keptBy(9, k, l));
        ahead("-1; -4; -6", (x, k, l) -> x.keptBy(9, k, l));
        promise(30);
        wrongCounts("-4", "-6", "-6", (x, k, l) -> x.tight(k, l));
        ahead("-4; -6", (x, k, l) -> x.tight(k, l));
    }

    /** All bars of five joints, of which the first is cut. */
    private static StiffFrames firstCut() {
        return withCut(allBars(5), 0);
    }

    private void wrongCounts(String below, String above, String aboveL, AskBy ask) {
        for (int k : new int[] {0, -1, -32, LOW, WRAPS_TO_TWO}) {
            refused(below, "K " + k, () -> firstCut(), x -> ask.of(x, k, 0), -4);
        }
        for (int l : new int[] {-1, -32, LOW, LOW + 1}) {
            for (int k = 1; k <= 3; k++) {
                int by = k;
                refused(below, "L " + l + " by " + k, () -> firstCut(), x -> ask.of(x, by, l), -4);
            }
        }
        for (int k : new int[] {4, 5, 256 + 1, 65536 + 1, WRAPS_BELOW, HIGH}) {
            refused(above, "K " + k, () -> firstCut(), x -> ask.of(x, k, 0), -6);
            refused(above, "K " + k + ", L 5", () -> firstCut(), x -> ask.of(x, k, 5), -6);
        }
        for (int k = 1; k <= 3; k++) {
            int by = k;
            for (int l : new int[] {2 * k, 2 * k + 1, 256, 65536, HIGH}) {
                refused(aboveL, "L " + l + " by " + k, () -> firstCut(), x -> ask.of(x, by, l), -6);
            }
        }
    }

    /** Of K and L, where both are wrong, the one that is below goes ahead. */
    private void ahead(String words, AskBy ask) {
        first(words, "K above, L below", () -> firstCut(), x -> ask.of(x, 4, -1), -4);
        first(words, "K far above, L far below", () -> firstCut(), x -> ask.of(x, HIGH, LOW), -4);
        first(words, "K below, L above", () -> firstCut(), x -> ask.of(x, 0, 6), -4);
        first(words, "K far below, L far above", () -> firstCut(), x -> ask.of(x, LOW, HIGH), -4);
        first(words, "both below", () -> firstCut(), x -> ask.of(x, 0, -1), -4);
        first(words, "both above", () -> firstCut(), x -> ask.of(x, 4, 8), -6);
    }

    private void rankBy() {
        int[][] ofSeven = {{7, 6}, {14, 13, 12, 11}, {21, 20, 19, 18, 17, 16}};
        for (int k = 1; k <= 3; k++) {
            for (int l = 0; l < 2 * k; l++) {
                int by = k;
                int less = l;
                String what = k + ", " + l;
                promise(28);
                answers("RANK by K, L.", what + " of seven joints", () -> allBars(7), x -> x.rankBy(by, less), ofSeven[k - 1][l]);
                answers("RANK by K, L.", what + ", full", () -> full(), x -> x.rankBy(by, less), 24 * k - l);
                answers("RANK by K, L.", what + ", one bar", () -> oneBar(), x -> x.rankBy(by, less), 1);
                answers("RANK by K, L.", what + ", one bar, cut", () -> withCut(oneBar(), 0), x -> x.rankBy(by, less), 0);
                answers("RANK by K, L.", what + ", no bars", () -> joints(24), x -> x.rankBy(by, less), 0);
                answers("RANK by K, L.", what + ", no joints", () -> joints(0), x -> x.rankBy(by, less), 0);
                promise(0);
                answers("K is 1 .. 3, L is 0 .. 2 K less 1", what, () -> oneBar(), x -> x.tight(by, less) & 1, 1);
            }
        }
        promise(0);
        answers("By 2, 3 it is as in I", "two squares", () -> twoSquares(), x -> x.rankBy(2, 3), 11);
        answers("by K, K such sets are K forests together", "a ring", () -> triangle(), x -> x.rankBy(1, 1), 2);
    }

    private void keptBy() {
        promise(29);
        String words = "Whether a BAR is KEPT by K, L: 1, 0";
        answers(words, "a tree's last", () -> triangle(), x -> x.keptBy(1, 1, 1), 1);
        answers(words, "a ring's last", () -> triangle(), x -> x.keptBy(2, 1, 1), 0);
        answers(words, "one ring", () -> triangle(), x -> x.keptBy(2, 1, 0), 1);
        answers(words, "the last that is free by 3, 5", () -> allBars(7), x -> x.keptBy(14, 3, 5), 1);
        answers(words, "the 80th", () -> full(), x -> x.keptBy(79, 3, 0), 0);
        answers(words, "the 80th, kept", () -> lastKept(), x -> x.keptBy(79, 1, 1), 1);
        answers(words, "by 2, 3", () -> allBars(4), x -> x.keptBy(5, 2, 3), 0);
        answers(words, "by 2, 2", () -> allBars(4), x -> x.keptBy(5, 2, 2), 1);
        answers(words, "one ahead is cut", () -> withCut(triangle(), 0), x -> x.keptBy(2, 1, 1), 1);
        answers("-9 CUT", "cut", () -> firstCut(), x -> x.keptBy(0, 1, 0), -9);
        answers("-9 CUT", "cut, would be left", () -> withCut(triangle(), 2), x -> x.keptBy(2, 1, 1), -9);
        answers("-9 CUT", "the 80th", () -> withCut(full(), 79), x -> x.keptBy(79, 3, 5), -9);
        first("-9 CUT. -1; -4; -6", "below ahead of cut", () -> firstCut(), x -> x.keptBy(0, 0, 0), -4);
        first("-9 CUT. -1; -4; -6", "above ahead of cut", () -> firstCut(), x -> x.keptBy(0, 2, 4), -6);
        for (int bar : outside(10)) {
            refused("-1", "keptBy(" + bar + ", 1, 1)", () -> firstCut(), x -> x.keptBy(bar, 1, 1), -1);
            first("-1; -4; -6", "nobody ahead of below, " + bar, () -> firstCut(), x -> x.keptBy(bar, 0, -1), -1);
            first("-1; -4; -6", "nobody ahead of above, " + bar, () -> firstCut(), x -> x.keptBy(bar, 4, 9), -1);
        }
        refused("-1", "keptBy(80, 1, 1) of 80", () -> full(), x -> x.keptBy(80, 1, 1), -1);
    }

    /** All bars of 13 joints, and two bars more, the last one to a joint that has no other. */
    private static StiffFrames lastKept() {
        StiffFrames x = allBars(13);
        x.joint();
        x.joint();
        x.bar(0, 13, 0);
        x.bar(13, 14, 0);
        return x;
    }

    private void tight() {
        promise(30);
        answers("3 TIGHT and FITS", "a bar by 2, 3", () -> oneBar(), x -> x.tight(2, 3), 3);
        answers("3 TIGHT and FITS", "24 joints by 2, 3", () -> strip(24, 0), x -> x.tight(2, 3), 3);
        answers("3 TIGHT and FITS", "all bars of four by 2, 2", () -> allBars(4), x -> x.tight(2, 2), 3);
        answers("2 TIGHT alone", "one bar too many by 2, 3", () -> allBars(4), x -> x.tight(2, 3), 2);
        answers("2 TIGHT alone", "full by 3, 0", () -> full(), x -> x.tight(3, 0), 2);
        answers("2 TIGHT alone", "full by 1, 1", () -> full(), x -> x.tight(1, 1), 2);
        answers("1 FITS alone", "one bar too few by 2, 3", () -> square(), x -> x.tight(2, 3), 1);
        answers("1 FITS alone", "no bars", () -> joints(24), x -> x.tight(1, 1), 1);
        answers("1 FITS alone", "the one too many cut", () -> withCut(square(), 0, 1), x -> x.tight(1, 1), 1);
        answers("0 neither", "a ring and a joint by 1, 1", () -> frame(4, 1, 2, 102), x -> x.tight(1, 1), 0);
        answers("0 neither", "two squares by 2, 3", () -> twoSquares(), x -> x.tight(2, 3), 0);
    }

    private void tightAtTheEdge() {
        for (int k = 1; k <= 3; k++) {
            for (int l = 0; l < 2 * k; l++) {
                int by = k;
                int less = l;
                promise(0);
                answers("(not without JOINTS)", k + ", " + l, () -> joints(0), x -> x.tight(by, less), 1);
                promise(30);
                // One joint has no bars: K less L is 0 with K and L alike.
                answers(k == l ? "3 TIGHT and FITS" : "1 FITS alone", "one joint by " + k + ", " + l, () -> joints(1),
                    x -> x.tight(by, less), k == l ? 3 : 1);
                // Two joints have a bar at most: 2 K less L is 1 with L at its greatest.
                answers(l == 2 * k - 1 ? "3 TIGHT and FITS" : "1 FITS alone", "two joints by " + k + ", " + l, () -> oneBar(),
                    x -> x.tight(by, less), l == 2 * k - 1 ? 3 : 1);
            }
        }
    }

    private void forests() {
        promise(31);
        String words = "The least K (1 .. 3) by which, with L as great as K, all FITS";
        answers(words, "no joints", () -> joints(0), x -> x.forests(), 1);
        answers(words, "no bars", () -> joints(24), x -> x.forests(), 1);
        answers(words, "a bar", () -> oneBar(), x -> x.forests(), 1);
        answers(words, "a ring", () -> triangle(), x -> x.forests(), 2);
        answers(words, "a ring, one cut", () -> withCut(triangle(), 0), x -> x.forests(), 1);
        answers(words, "the most of two", () -> allBars(4), x -> x.forests(), 2);
        answers(words, "one more than two", () -> frame(5, 1, 2, 3, 4, 102, 103, 104, 203, 204), x -> x.forests(), 3);
        answers(words, "the most of three", () -> allBars(6), x -> x.forests(), 3);
        answers(words, "24 joints and 69 bars", () -> threeForests(), x -> x.forests(), 3);
        answers("-9 none", "80 bars of 24 joints", () -> full(), x -> x.forests(), -9);
        answers("-9 none", "one more than three", () -> allBars(7), x -> x.forests(), -9);
        answers("-9 none", "one more than three of 24", () -> seventy(), x -> x.forests(), -9);
        answers("-9 none", "all bars of 13 joints", () -> allBars(13), x -> x.forests(), -9);
    }

    /** 69 bars on 24 joints, as many as three trees have: each joint leads to three, but for the last ones. */
    private static StiffFrames threeForests() {
        StiffFrames x = wide(24, 66, 0);
        x.bar(0, 23, 0);
        x.bar(0, 22, 0);
        x.bar(1, 23, 0);
        return x;
    }

    private static StiffFrames seventy() {
        StiffFrames x = threeForests();
        x.bar(0, 12, 0);
        return x;
    }
}
