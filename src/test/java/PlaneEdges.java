/** Edges of rank, the row and its circuits, prices and what is missing: promises 6 to 13 and 20 to 23. */
final class PlaneEdges extends Edges {
    PlaneEdges(Due due, Quotes quotes) {
        super(due, quotes);
    }

    @Override
    void rows() {
        rank();
        freedom();
        stiff();
        strong();
        kept();
        spare();
        circuit();
        circuitBar();
        grows();
        cheapest();
        cheap();
        fewest();
        fewestAt();
    }

    private static StiffFrames allCut() {
        return withCut(triangle(), 0, 1, 2);
    }

    private void rank() {
        promise(6);
        String words = "RANK of those THERE.";
        answers(words, "no joints", () -> joints(0), x -> x.rank(), 0);
        answers(words, "no bars", () -> joints(24), x -> x.rank(), 0);
        answers(words, "one", () -> oneBar(), x -> x.rank(), 1);
        answers(words, "all cut", () -> allCut(), x -> x.rank(), 0);
        answers(words, "one of three cut", () -> withCut(triangle(), 1), x -> x.rank(), 2);
        answers(words, "one more than is free", () -> allBars(4), x -> x.rank(), 5);
        answers(words, "a spare one cut", () -> withCut(allBars(4), 0), x -> x.rank(), 5);
        answers(words, "the greatest", () -> strip(24, 0), x -> x.rank(), 45);
        answers(words, "the greatest, of 80", () -> full(), x -> x.rank(), 45);
        does(words, "there again", () -> allCut(), x -> x.cut(1, false) + x.rank(), 2);
        promise(0);
        String free = "m is at most 2 n less 3";
        answers(free, "two joints, 1", () -> oneBar(), x -> x.kept(0), 1);
        answers(free, "three joints, 3", () -> triangle(), x -> x.kept(2), 1);
        answers(free, "four joints, 5", () -> allBars(4), x -> x.kept(4), 1);
        answers(free, "four joints, 6", () -> allBars(4), x -> x.kept(5), 0);
        answers(free, "24 joints, 45", () -> greatCircuit(), x -> x.kept(44), 1);
        answers(free, "24 joints, 46", () -> greatCircuit(), x -> x.kept(45), 0);
        answers(free, "too many in a part alone", () -> twoSquares(), x -> x.rank(), 11);
    }

    private void freedom() {
        promise(7);
        answers("FREEDOM.", "no joints", () -> joints(0), x -> x.freedom(), 0);
        answers("FREEDOM.", "one joint", () -> joints(1), x -> x.freedom(), 2);
        answers("FREEDOM.", "two joints", () -> joints(2), x -> x.freedom(), 4);
        answers("FREEDOM.", "a bar", () -> oneBar(), x -> x.freedom(), 3);
        answers("FREEDOM.", "a cut bar", () -> withCut(oneBar(), 0), x -> x.freedom(), 4);
        answers("FREEDOM.", "24 joints", () -> joints(24), x -> x.freedom(), 48);
        answers("FREEDOM.", "24 joints and 45 bars", () -> strip(24, 0), x -> x.freedom(), 3);
        answers("FREEDOM.", "full", () -> full(), x -> x.freedom(), 3);
        answers("FREEDOM.", "full, a joint's bars cut", () -> withCut(full(), 22, 44, 65), x -> x.freedom(), 5);
    }

    private void stiff() {
        promise(8);
        answers("0 neither (without JOINTS, too)", "without", () -> joints(0), x -> x.stiff(), 0);
        answers("0 neither", "two joints", () -> joints(2), x -> x.stiff(), 0);
        answers("0 neither", "freedom 4", () -> square(), x -> x.stiff(), 0);
        answers("0 neither", "a cut bar", () -> withCut(oneBar(), 0), x -> x.stiff(), 0);
        answers("0 neither", "spare bars, and a joint alone", () -> twoSquares(), x -> x.stiff(), 0);
        answers("0 neither", "24 joints, freedom 4", () -> spokes(), x -> x.stiff(), 0);
        answers("1 STIFF", "a bar", () -> oneBar(), x -> x.stiff(), 1);
        answers("1 STIFF", "freedom 3", () -> frame(4, 1, 102, 203, 3, 2), x -> x.stiff(), 1);
        answers("1 STIFF", "24 joints", () -> strip(24, 0), x -> x.stiff(), 1);
        promise(0);
        answers("FREEDOM is 3 at most (one JOINT: 2)", "one joint", () -> joints(1), x -> x.stiff(), 2);
        answers("FREEDOM is 3 at most", "3", () -> triangle(), x -> x.stiff(), 1);
        answers("FREEDOM is 3 at most", "4", () -> withCut(triangle(), 2), x -> x.stiff(), 0);
    }

    private void strong() {
        promise(8);
        answers("2 STRONG", "all bars of four joints", () -> allBars(4), x -> x.stiff(), 2);
        answers("2 STRONG", "one bar more than a strip", () -> greatCircuit(), x -> x.stiff(), 2);
        answers("2 STRONG", "full", () -> full(), x -> x.stiff(), 2);
        answers("1 STIFF", "one bar cut of the least strong one", () -> withCut(allBars(4), 3), x -> x.stiff(), 1);
        answers("1 STIFF", "one bar cut of the longest", () -> withCut(greatCircuit(), 7), x -> x.stiff(), 1);
        answers("1 STIFF", "two needed bars of 80", () -> needed(), x -> x.stiff(), 1);
        promise(0);
        String words = "is so without any one BAR that is THERE";
        answers(words, "no bar, one joint", () -> joints(1), x -> x.stiff(), 2);
        answers(words, "a cut one is no matter", () -> withCut(allBars(5), 9), x -> x.stiff(), 2);
    }

    /** All bars of 13 joints, and a joint with two bars, which are the 79th and the 80th. */
    private static StiffFrames needed() {
        StiffFrames x = allBars(13);
        x.joint();
        x.bar(13, 0, 0);
        x.bar(13, 1, 0);
        return x;
    }

    private void kept() {
        promise(9);
        String words = "Of a BAR in THE ROW: 1 KEPT, 0 LEFT";
        answers(words, "the first", () -> oneBar(), x -> x.kept(0), 1);
        answers(words, "the last that is free", () -> full(), x -> x.kept(44), 1);
        answers(words, "the first that is not", () -> full(), x -> x.kept(45), 0);
        answers(words, "the 80th, left", () -> full(), x -> x.kept(79), 0);
        answers(words, "the 80th, kept", () -> needed(), x -> x.kept(79), 1);
        answers(words, "kept as one ahead is cut", () -> withCut(allBars(4), 0), x -> x.kept(5), 1);
        answers(words, "left though it is cheaper", () -> cheapLast(), x -> x.kept(5), 0);
        answers("-9 CUT", "cut", () -> withCut(oneBar(), 0), x -> x.kept(0), -9);
        answers("-9 CUT", "cut, would be left", () -> withCut(allBars(4), 5), x -> x.kept(5), -9);
        answers("-9 CUT", "the 80th", () -> withCut(full(), 79), x -> x.kept(79), -9);
        does("-9 CUT", "there again", () -> withCut(allBars(4), 5), x -> x.cut(5, false) + x.kept(5), 1);
        for (int bar : outside(6)) {
            refused("-1", "kept(" + bar + ")", () -> allBars(4), x -> x.kept(bar), -1);
        }
        refused("-1", "kept(80) of 80", () -> full(), x -> x.kept(80), -1);
        promise(0);
        answers("likewise, but by COST, of one COST by numbers", "by cost", () -> cheapLast(), x -> x.cheap(5), 1);
        answers("likewise, but by COST, of one COST by numbers", "of one cost", () -> cheapLast(), x -> x.cheap(4), 0);
        answers("likewise, but by COST, of one COST by numbers", "all of one", () -> allBars(4), x -> x.cheap(5), 0);
    }

    /** All bars of four joints, the last one the cheapest. */
    private static StiffFrames cheapLast() {
        StiffFrames x = allBars(4);
        for (int bar = 0; bar < 5; bar++) {
            x.cost(bar, 2);
        }
        x.cost(5, 1);
        return x;
    }

    private void spare() {
        promise(10);
        String words = "Whether a BAR that is THERE is SPARE: 1, 0";
        answers(words, "one alone", () -> oneBar(), x -> x.spare(0), 0);
        answers(words, "one too few", () -> frame(4, 1, 2, 3, 102, 103), x -> x.spare(4), 0);
        answers(words, "just enough, the first", () -> allBars(4), x -> x.spare(0), 1);
        answers(words, "just enough, the last", () -> allBars(4), x -> x.spare(5), 1);
        answers(words, "another cut", () -> withCut(allBars(4), 5), x -> x.spare(0), 0);
        answers(words, "the longest circuit's first", () -> greatCircuit(), x -> x.spare(0), 1);
        answers(words, "the longest circuit's last", () -> greatCircuit(), x -> x.spare(45), 1);
        answers(words, "the 78th", () -> needed(), x -> x.spare(77), 1);
        answers(words, "the 80th", () -> needed(), x -> x.spare(79), 0);
        answers("-9 CUT", "cut", () -> withCut(oneBar(), 0), x -> x.spare(0), -9);
        answers("-9 CUT", "cut, would be spare", () -> withCut(allBars(4), 0), x -> x.spare(0), -9);
        answers("-9 CUT", "the 80th", () -> withCut(full(), 79), x -> x.spare(79), -9);
        for (int bar : outside(6)) {
            refused("-1", "spare(" + bar + ")", () -> allBars(4), x -> x.spare(bar), -1);
        }
        refused("-1", "spare(80) of 80", () -> full(), x -> x.spare(80), -1);
    }

    private void circuit() {
        promise(11);
        String words = "How many BARS the CIRCUIT of a BAR that is LEFT has.";
        answers(words, "the least", () -> allBars(4), x -> x.circuit(5), 5);
        answers(words, "the greatest", () -> greatCircuit(), x -> x.circuit(45), 45);
        answers(words, "the 46th of 80", () -> full(), x -> x.circuit(45), 5);
        answers(words, "the 80th", () -> full(), x -> x.circuit(79), 7);
        String state = "-3 it is not LEFT";
        refused(state, "kept", () -> allBars(4), x -> x.circuit(0), -3);
        refused(state, "kept, the last ahead of it", () -> allBars(4), x -> x.circuit(4), -3);
        refused(state, "one alone", () -> oneBar(), x -> x.circuit(0), -3);
        refused(state, "cut", () -> withCut(allBars(4), 5), x -> x.circuit(5), -3);
        refused(state, "kept as another is cut", () -> withCut(allBars(4), 0), x -> x.circuit(5), -3);
        refused(state, "cut after it was left", () -> cutLate(), x -> x.circuit(5), -3);
        for (int bar : outside(6)) {
            refused("-1", "circuit(" + bar + ")", () -> allBars(4), x -> x.circuit(bar), -1);
        }
        refused("-1", "circuit(80) of 80", () -> full(), x -> x.circuit(80), -1);
    }

    private static StiffFrames cutLate() {
        StiffFrames x = allBars(4);
        x.circuit(5);
        x.cut(5, true);
        return x;
    }

    private void circuitBar() {
        promise(12);
        String words = "The i-th BAR of it, by numbers";
        answers(words, "the first", () -> allBars(4), x -> x.circuitBar(5, 0), 0);
        answers(words, "the last", () -> allBars(4), x -> x.circuitBar(5, 4), 4);
        answers(words, "the last of the longest", () -> greatCircuit(), x -> x.circuitBar(45, 44), 44);
        answers(words, "not from 0 on", () -> twoSquares(), x -> x.circuitBar(11, 0), 6);
        answers(words, "the first of the 80th's", () -> full(), x -> x.circuitBar(79, 0), 13);
        answers(words, "the last of the 80th's", () -> full(), x -> x.circuitBar(79, 6), 38);
        for (int i : outside(5)) {
            answers("-9 there is none such", "circuitBar(5, " + i + ")", () -> allBars(4), x -> x.circuitBar(5, i), -9);
            first("-1; -3", "state ahead of none, " + i, () -> allBars(4), x -> x.circuitBar(0, i), -3);
            first("-1; -3", "nobody ahead of none, " + i, () -> allBars(4), x -> x.circuitBar(6, i), -1);
        }
        answers("-9 there is none such", "the 46th of 45", () -> greatCircuit(), x -> x.circuitBar(45, 45), -9);
        for (int bar : outside(6)) {
            refused("-1", "circuitBar(" + bar + ", 0)", () -> allBars(4), x -> x.circuitBar(bar, 0), -1);
        }
        refused("-3", "kept", () -> allBars(4), x -> x.circuitBar(4, 0), -3);
        refused("-3", "cut", () -> withCut(allBars(4), 5), x -> x.circuitBar(5, 0), -3);
        refused("-3", "kept as another is cut", () -> withCut(allBars(4), 0), x -> x.circuitBar(5, 0), -3);
        refused("-3", "cut after it was left", () -> cutLate(), x -> x.circuitBar(5, 0), -3);
    }

    private void grows() {
        promise(13);
        String words = "Whether RANK would grow by a BAR between two JOINTS: 1, 0";
        answers(words, "two joints", () -> joints(2), x -> x.grows(0, 1), 1);
        answers(words, "the other way", () -> joints(2), x -> x.grows(1, 0), 1);
        answers(words, "where one is", () -> oneBar(), x -> x.grows(0, 1), 0);
        answers(words, "where a cut one is", () -> withCut(oneBar(), 0), x -> x.grows(0, 1), 1);
        answers(words, "one too few", () -> square(), x -> x.grows(0, 2), 1);
        answers(words, "just stiff", () -> frame(4, 1, 2, 3, 102, 103), x -> x.grows(2, 3), 0);
        answers(words, "the last joints", () -> joints(24), x -> x.grows(23, 22), 1);
        answers(words, "24 joints, freedom 4", () -> spokes(), x -> x.grows(22, 23), 1);
        answers(words, "24 joints, stiff", () -> strip(24, 0), x -> x.grows(0, 23), 0);
        answers(words, "no room for it", () -> withCut(full(), 22, 44, 65), x -> x.grows(0, 23), 1);
        for (int n : new int[] {3, 24}) {
            for (int joint : outside(n)) {
                refused("-1", "grows(" + joint + ", 0) of " + n, () -> joints(n), x -> x.grows(joint, 0), -1);
                refused("-1", "grows(0, " + joint + ") of " + n, () -> joints(n), x -> x.grows(0, joint), -1);
            }
            for (int joint = 0; joint < n; joint++) {
                int one = joint;
                refused("-1 (also if they are one)", one + " of " + n, () -> joints(n), x -> x.grows(one, one), -1);
            }
        }
    }

    private void cheapest() {
        promise(20);
        String words = "COST of CHEAPEST.";
        answers(words, "no joints", () -> joints(0), x -> x.cheapest(), 0);
        answers(words, "no bars", () -> joints(24), x -> x.cheapest(), 0);
        answers(words, "all cut", () -> withCut(strip(4, 9), 0, 1, 2, 3, 4), x -> x.cheapest(), 0);
        answers(words, "the least cost", () -> oneBar(), x -> x.cheapest(), 0);
        answers(words, "the greatest cost", () -> strip(2, 999), x -> x.cheapest(), 999);
        answers(words, "one cut", () -> withCut(strip(3, 999), 1), x -> x.cheapest(), 1998);
        answers(words, "one left", () -> cheapLast(), x -> x.cheapest(), 9);
        answers(words, "the greatest", () -> full(), x -> x.cheapest(), 44955);
        does(words, "another cost", () -> cheapLast(), x -> x.cost(5, 2) + x.cheapest(), 11);
        answers(words, "another cost since it was told", () -> dearerSince(), x -> x.cheapest(), 10);
        does(words, "from the greatest to the least", () -> strip(2, 999), x -> x.cost(0, 0) + x.cheapest(), 999);
    }

    private static StiffFrames dearerSince() {
        StiffFrames x = cheapLast();
        x.cheapest();
        x.cost(5, 3);
        return x;
    }

    private void cheap() {
        promise(21);
        String words = "Whether a BAR is KEPT in CHEAPEST: 1, 0";
        answers(words, "the cheapest, last by number", () -> cheapLast(), x -> x.cheap(5), 1);
        answers(words, "of one cost the last", () -> cheapLast(), x -> x.cheap(4), 0);
        answers(words, "of one cost one ahead", () -> cheapLast(), x -> x.cheap(3), 1);
        answers(words, "all of one cost, the 45th", () -> full(), x -> x.cheap(44), 1);
        answers(words, "all of one cost, the 46th", () -> full(), x -> x.cheap(45), 0);
        does(words, "the 80th, when it is cheaper", () -> full(), x -> x.cost(79, 998) + x.cheap(79), 1000);
        answers(words, "one cut", () -> withCut(cheapLast(), 0), x -> x.cheap(4), 1);
        answers("-9 CUT", "cut", () -> withCut(cheapLast(), 5), x -> x.cheap(5), -9);
        answers("-9 CUT", "the 80th", () -> withCut(full(), 79), x -> x.cheap(79), -9);
        for (int bar : outside(6)) {
            refused("-1", "cheap(" + bar + ")", () -> cheapLast(), x -> x.cheap(bar), -1);
        }
        refused("-1", "cheap(80) of 80", () -> full(), x -> x.cheap(80), -1);
    }

    private void fewest() {
        promise(22);
        String words = "FEWEST, as many as are told";
        answers(words, "no joints", () -> joints(0), x -> x.fewest(), 0);
        answers(words, "one joint", () -> joints(1), x -> x.fewest(), 0);
        answers(words, "two joints", () -> joints(2), x -> x.fewest(), 1);
        answers(words, "stiff", () -> oneBar(), x -> x.fewest(), 0);
        answers(words, "freedom 4", () -> square(), x -> x.fewest(), 1);
        answers(words, "the most", () -> joints(24), x -> x.fewest(), 45);
        answers(words, "24 joints, freedom 4", () -> spokes(), x -> x.fewest(), 1);
        answers(words, "full", () -> full(), x -> x.fewest(), 0);
        answers(words, "full, and no room for a bar", () -> withCut(full(), 22, 44, 65), x -> x.fewest(), 2);
        String fewer = "(without such two: fewer)";
        answers(fewer, "the only two have a cut one", () -> withCut(oneBar(), 0), x -> x.fewest(), 0);
        answers(fewer, "three joints, one cut", () -> withCut(triangle(), 1), x -> x.fewest(), 0);
        answers(fewer, "four joints, two pairs left", () -> withCut(square(), 0, 1, 2, 3), x -> x.fewest(), 2);
        answers(fewer, "all of 13 joints cut", () -> allOfThirteenCut(), x -> x.fewest(), 0);
        promise(0);
        String till = "till it is STIFF (or no such two are left)";
        answers(till, "stiff by those that came", () -> joints(4), x -> x.fewest(), 5);
        answers(till, "none left", () -> withCut(square(), 0, 1, 2, 3), x -> x.fewestAt(2), -9);
    }

    private static StiffFrames allOfThirteenCut() {
        StiffFrames x = allBars(13);
        for (int bar = 0; bar < 78; bar++) {
            x.cut(bar, true);
        }
        return x;
    }

    private void fewestAt() {
        promise(23);
        String words = "100 times the lesser JOINT and the greater one of the i-th of these";
        answers(words, "two joints", () -> joints(2), x -> x.fewestAt(0), 1);
        answers(words, "a cut one between the first two", () -> withCut(frame(3, 1), 0), x -> x.fewestAt(0), 2);
        answers(words, "past two that are stiff", () -> frame(5, 2, 3, 102, 103, 203), x -> x.fewestAt(0), 4);
        answers(words, "the 23rd", () -> joints(24), x -> x.fewestAt(22), 23);
        answers(words, "the 24th", () -> joints(24), x -> x.fewestAt(23), 102);
        answers(words, "the 45th", () -> joints(24), x -> x.fewestAt(44), 123);
        answers(words, "past cut ones, the last", () -> withCut(square(), 0, 1, 2, 3), x -> x.fewestAt(1), 103);
        answers(words, "to the last joint", () -> withCut(strip(24, 0), 22, 44), x -> x.fewestAt(1), 123);
        String none = "-9 there is none such";
        for (int i : outside(5)) {
            answers(none, "fewestAt(" + i + ")", () -> joints(4), x -> x.fewestAt(i), -9);
        }
        answers(none, "no joints", () -> joints(0), x -> x.fewestAt(0), -9);
        answers(none, "stiff", () -> triangle(), x -> x.fewestAt(0), -9);
        answers(none, "no such two", () -> withCut(triangle(), 1), x -> x.fewestAt(0), -9);
        answers(none, "the 46th", () -> joints(24), x -> x.fewestAt(45), -9);
        does(none, "told before, stiff now", () -> joints(2), x -> x.fewestAt(0) + x.bar(0, 1, 0) + x.fewestAt(0), -8);
    }
}
