/** For each promise of the document: ordinary calls, the edges that it names, and wrong ones. */
final class PromisesTest extends Frames {
    private final Due due = new Due();

    private void same(int promise, String call, int got, int want) {
        due.same("promise " + promise + ": " + call, got, want);
    }

    private void newObject() {
        StiffFrames x = new StiffFrames();
        for (int what = 0; what <= 5; what++) {
            same(1, "count(" + what + ")", x.count(what), 0);
        }
        for (int what = 11; what <= 16; what++) {
            same(1, "count(" + what + ")", x.count(what), 0);
        }
        same(1, "rank()", x.rank(), 0);
        same(1, "freedom()", x.freedom(), 0);
        same(1, "clusters()", x.clusters(), 0);
        same(1, "pieces()", x.pieces(), 0);
        same(1, "cheapest()", x.cheapest(), 0);
        same(1, "fewest()", x.fewest(), 0);
        same(1, "back(0, 0)", x.back(0, 0), -9);
        same(1, "threes()", x.threes(), 0);
        same(1, "bundles()", x.bundles(), 0);
        same(1, "forests()", x.forests(), 1);
        StiffFrames other = joints(3);
        same(1, "another object's joints", other.count(0), 3);
        same(1, "joints of its own", x.count(0), 0);
    }

    private void joint() {
        StiffFrames x = new StiffFrames();
        for (int i = 0; i < 24; i++) {
            same(2, "joint()", x.joint(), i);
        }
        same(2, "the 25th joint()", x.joint(), -6);
        same(2, "joint() again", x.joint(), -6);
        same(2, "count(0)", x.count(0), 24);
        same(2, "count(16)", x.count(16), 2);
    }

    private void bar() {
        StiffFrames x = joints(3);
        same(3, "bar(2, 0, 0)", x.bar(2, 0, 0), 0);
        same(3, "the lesser joint", x.barOf(0, 0), 0);
        same(3, "the greater joint", x.barOf(0, 1), 2);
        same(3, "it is there", x.barOf(0, 3), 1);
        same(3, "bar(0, 1, 999)", x.bar(0, 1, 999), 1);
        same(3, "bar(-1, 1, 0)", x.bar(-1, 1, 0), -1);
        same(3, "bar(1, 3, 0)", x.bar(1, 3, 0), -1);
        same(3, "bar(3, 1, 0)", x.bar(3, 1, 0), -1);
        same(3, "bar(LOW, HIGH, 0)", x.bar(LOW, HIGH, 0), -1);
        same(3, "bar(1, 1, -1): nobody goes ahead of below", x.bar(1, 1, -1), -1);
        same(3, "bar(1, 0, -1): state goes ahead of below", x.bar(1, 0, -1), -3);
        same(3, "bar(0, 2, 1000): state goes ahead of room", x.bar(0, 2, 1000), -3);
        x.cut(0, true);
        same(3, "bar(0, 2, 0): a cut one is between them", x.bar(0, 2, 0), -3);
        same(3, "bar(1, 2, -1)", x.bar(1, 2, -1), -4);
        same(3, "bar(1, 2, LOW)", x.bar(1, 2, LOW), -4);
        same(3, "bar(1, 2, 1000)", x.bar(1, 2, 1000), -6);
        same(3, "bar(1, 2, HIGH)", x.bar(1, 2, HIGH), -6);
        same(3, "nothing has changed", x.count(1), 2);
        same(3, "bar(1, 2, 7)", x.bar(1, 2, 7), 2);
        same(3, "its cost", x.barOf(2, 2), 7);
    }

    private void eightyBars() {
        StiffFrames x = joints(14);
        int number = 0;
        for (int a = 0; a < 14; a++) {
            for (int b = a + 1; b < 14 && number < 80; b++) {
                same(3, "bar(" + a + ", " + b + ", 1)", x.bar(a, b, 1), number++);
            }
        }
        same(3, "the 81st", x.bar(12, 13, 1), -6);
        same(3, "the 81st, below", x.bar(12, 13, -1), -4);
        same(3, "one between them", x.bar(0, 1, 1), -3);
        x.cut(5, true);
        same(3, "a cut bar still has its place", x.bar(12, 13, 1), -6);
        same(3, "count(1)", x.count(1), 80);
        same(3, "count(16)", x.count(16), 2);
    }

    /** All 80 bars in use, and the last two of them needed. */
    private void neededAmongEighty() {
        StiffFrames x = allBars(13);
        x.joint();
        x.bar(13, 0, 999);
        x.bar(13, 1, 999);
        same(10, "spare(79)", x.spare(79), 0);
        same(10, "spare(77)", x.spare(77), 1);
        same(33, "count(4)", x.count(4), 78);
        same(8, "stiff()", x.stiff(), 1);
        same(26, "bundles()", x.bundles(), 3);
        same(27, "bundle(79)", x.bundle(79), 2);
        same(11, "circuit(77)", x.circuit(77), 5);
        same(20, "cheapest()", x.cheapest(), 1998);
        same(31, "forests()", x.forests(), -9);
    }

    private void cut() {
        StiffFrames x = frame(3, 1, 102);
        same(4, "cut(0, false)", x.cut(0, false), 0);
        same(4, "cut(0, true)", x.cut(0, true), 1);
        same(4, "cut(0, true) again", x.cut(0, true), 0);
        same(4, "barOf(0, 3)", x.barOf(0, 3), 0);
        same(4, "count(2)", x.count(2), 1);
        same(4, "rank()", x.rank(), 1);
        same(4, "cut(0, false)", x.cut(0, false), 1);
        same(4, "rank() again", x.rank(), 2);
        same(4, "cut(2, true)", x.cut(2, true), -1);
        same(4, "cut(-1, true)", x.cut(-1, true), -1);
        same(4, "cut(LOW, false)", x.cut(LOW, false), -1);
        same(4, "count(2)", x.count(2), 2);
    }

    private void cost() {
        StiffFrames x = joints(2);
        x.bar(0, 1, 5);
        same(5, "cost(0, 0)", x.cost(0, 0), 5);
        same(5, "cost(0, 999)", x.cost(0, 999), 0);
        same(5, "cost(1, -1): nobody goes ahead", x.cost(1, -1), -1);
        same(5, "cost(-1, 1000)", x.cost(-1, 1000), -1);
        same(5, "cost(0, -1)", x.cost(0, -1), -4);
        same(5, "cost(0, 1000)", x.cost(0, 1000), -6);
        same(5, "barOf(0, 2)", x.barOf(0, 2), 999);
        x.cut(0, true);
        same(5, "cost of a cut bar", x.cost(0, 3), 999);
        same(5, "barOf(0, 2)", x.barOf(0, 2), 3);
    }

    private void rankAndFreedom() {
        same(6, "rank() of a triangle", frame(3, 1, 102, 2).rank(), 3);
        same(6, "rank() of a square with both diagonals", allBars(4).rank(), 5);
        same(6, "rank() of all bars of 13 joints", allBars(13).rank(), 23);
        same(6, "rank() of two squares", twoSquares().rank(), 11);
        same(7, "freedom() of two squares", twoSquares().freedom(), 5);
        same(7, "freedom() of a joint", joints(1).freedom(), 2);
        same(7, "freedom() of 24 joints", joints(24).freedom(), 48);
        same(7, "freedom() of a square", frame(4, 1, 102, 203, 3).freedom(), 4);
    }

    private void stiff() {
        same(8, "no joints", joints(0).stiff(), 0);
        same(8, "one joint", joints(1).stiff(), 2);
        same(8, "two joints", joints(2).stiff(), 0);
        same(8, "a bar", frame(2, 1).stiff(), 1);
        same(8, "a triangle", frame(3, 1, 102, 2).stiff(), 1);
        same(8, "a square", frame(4, 1, 102, 203, 3).stiff(), 0);
        same(8, "all bars of four joints", allBars(4).stiff(), 2);
        same(8, "two squares", twoSquares().stiff(), 0);
        StiffFrames x = allBars(4);
        x.joint();
        x.bar(4, 0, 0);
        x.bar(4, 1, 0);
        same(8, "spare bars in one part alone", x.stiff(), 1);
        x.bar(4, 2, 0);
        same(8, "spare bars in all parts", x.stiff(), 2);
    }

    private void kept() {
        StiffFrames x = allBars(4);
        for (int bar = 0; bar < 5; bar++) {
            same(9, "kept(" + bar + ")", x.kept(bar), 1);
        }
        same(9, "kept(5)", x.kept(5), 0);
        x.cut(2, true);
        same(9, "kept(5), with bar 2 cut", x.kept(5), 1);
        same(9, "kept(2)", x.kept(2), -9);
        same(9, "kept(6)", x.kept(6), -1);
        same(9, "kept(-1)", x.kept(-1), -1);
    }

    private void spare() {
        StiffFrames x = twoSquares();
        for (int bar = 0; bar < 12; bar++) {
            same(10, "spare(" + bar + ")", x.spare(bar), 1);
        }
        same(10, "spare(12)", x.spare(12), 0);
        x.cut(3, true);
        same(10, "spare(3)", x.spare(3), -9);
        same(10, "spare(0)", x.spare(0), 0);
        same(10, "spare(6)", x.spare(6), 1);
        same(10, "spare(13)", x.spare(13), -1);
        same(10, "spare(LOW)", x.spare(LOW), -1);
    }

    private void circuit() {
        StiffFrames x = twoSquares();
        same(11, "circuit(5)", x.circuit(5), 5);
        same(11, "circuit(11)", x.circuit(11), 5);
        same(11, "circuit(4), which is kept", x.circuit(4), -3);
        same(11, "circuit(13)", x.circuit(13), -1);
        same(11, "circuit(-1)", x.circuit(-1), -1);
        for (int i = 0; i < 5; i++) {
            same(12, "circuitBar(11, " + i + ")", x.circuitBar(11, i), 6 + i);
        }
        same(12, "circuitBar(11, 5)", x.circuitBar(11, 5), -9);
        same(12, "circuitBar(11, -1)", x.circuitBar(11, -1), -9);
        same(12, "circuitBar(11, HIGH)", x.circuitBar(11, HIGH), -9);
        same(12, "circuitBar(0, -1): state goes ahead", x.circuitBar(0, -1), -3);
        same(12, "circuitBar(13, 0)", x.circuitBar(13, 0), -1);
        x.cut(11, true);
        same(11, "circuit(11), which is cut", x.circuit(11), -3);
        same(12, "circuitBar(11, 0), which is cut", x.circuitBar(11, 0), -3);
        same(11, "count(13)", x.count(13), 4);
    }

    /** A bar that is put on late but is not of the circuit, though all is kept before the one that is left. */
    private void circuitOfSome() {
        StiffFrames x = frame(6, 405, 1, 102, 2, 304, 103, 203, 3);
        same(11, "circuit(7)", x.circuit(7), 5);
        int[] due = {1, 2, 3, 5, 6};
        for (int i = 0; i < due.length; i++) {
            same(12, "circuitBar(7, " + i + ")", x.circuitBar(7, i), due[i]);
        }
    }

    private void grows() {
        StiffFrames x = frame(4, 1, 102, 203, 2);
        same(13, "grows(0, 3)", x.grows(0, 3), 1);
        same(13, "grows(3, 0)", x.grows(3, 0), 1);
        same(13, "grows(0, 1), where one is", x.grows(0, 1), 0);
        same(13, "grows(0, 0)", x.grows(0, 0), -1);
        same(13, "grows(0, 4)", x.grows(0, 4), -1);
        same(13, "grows(-1, 0)", x.grows(-1, 0), -1);
        x.bar(0, 3, 0);
        same(13, "grows(1, 3), stiff by others", x.grows(1, 3), 0);
        x.cut(0, true);
        same(13, "grows(0, 1), where a cut one is", x.grows(0, 1), 1);
        same(13, "rank() has not changed", x.rank(), 4);
        same(13, "count(1)", x.count(1), 5);
    }

    private void clusters() {
        StiffFrames x = twoSquares();
        same(14, "clusters()", x.clusters(), 3);
        same(15, "size(0)", x.size(0), 4);
        same(15, "size(1)", x.size(1), 2);
        same(15, "size(2)", x.size(2), 4);
        same(15, "size(3)", x.size(3), -1);
        same(15, "size(-1)", x.size(-1), -1);
        same(15, "size(LOW)", x.size(LOW), -1);
        same(16, "member(0, 0)", x.member(0, 0), 0);
        same(16, "member(0, 3)", x.member(0, 3), 3);
        same(16, "member(1, 0)", x.member(1, 0), 0);
        same(16, "member(1, 1)", x.member(1, 1), 7);
        same(16, "member(2, 0)", x.member(2, 0), 3);
        same(16, "member(2, 3)", x.member(2, 3), 6);
        same(16, "member(2, 4)", x.member(2, 4), -9);
        same(16, "member(2, -1)", x.member(2, -1), -9);
        same(16, "member(3, -1): nobody goes ahead", x.member(3, -1), -1);
        same(16, "member(-1, 0)", x.member(-1, 0), -1);
        same(14, "clusters() of joints alone", joints(5).clusters(), 0);
        same(14, "clusters() of a star", frame(5, 1, 2, 3, 4).clusters(), 4);
        same(14, "clusters() of a square", frame(4, 1, 102, 203, 3).clusters(), 4);
        same(14, "clusters() of a braced square", frame(4, 1, 102, 203, 3, 2).clusters(), 1);
    }

    /** Three hinged triangles in a ring are stiff, though no bar joins their outer joints. */
    private void ringOfTriangles() {
        StiffFrames x = frame(6, 1, 3, 103, 102, 104, 204, 2, 5, 205);
        same(14, "clusters()", x.clusters(), 1);
        same(15, "size(0)", x.size(0), 6);
        same(17, "together(3, 4)", x.together(3, 4), 0);
        x.cut(8, true);
        same(14, "clusters() with a bar cut", x.clusters(), 2);
        same(17, "together(0, 5)", x.together(0, 5), 1);
        same(17, "together(2, 5)", x.together(2, 5), -9);
        same(18, "hinge(0)", x.hinge(0), 1);
    }

    private void togetherAndHinge() {
        StiffFrames x = twoSquares();
        same(17, "together(0, 2)", x.together(0, 2), 0);
        same(17, "together(7, 0)", x.together(7, 0), 1);
        same(17, "together(6, 4)", x.together(6, 4), 2);
        same(17, "together(0, 4)", x.together(0, 4), -9);
        same(17, "together(3, 3)", x.together(3, 3), -1);
        same(17, "together(0, 8)", x.together(0, 8), -1);
        same(17, "together(-1, 0)", x.together(-1, 0), -1);
        int[] hinges = {1, 0, 0, 1, 0, 0, 0, 0};
        for (int joint = 0; joint < 8; joint++) {
            same(18, "hinge(" + joint + ")", x.hinge(joint), hinges[joint]);
        }
        same(18, "hinge(8)", x.hinge(8), -1);
        same(18, "hinge(-1)", x.hinge(-1), -1);
    }

    private void pieces() {
        same(19, "no joints", joints(0).pieces(), 0);
        same(19, "24 joints", joints(24).pieces(), 24);
        StiffFrames x = frame(7, 1, 102, 2, 304, 405, 305);
        same(19, "two triangles and a joint", x.pieces(), 3);
        x.bar(6, 0, 0);
        same(19, "the joint joined", x.pieces(), 2);
        x.bar(5, 2, 0);
        same(19, "all joined", x.pieces(), 1);
        x.cut(7, true);
        same(19, "a bar cut", x.pieces(), 2);
    }

    private void cheapest() {
        StiffFrames x = joints(4);
        int[][] bars = {{0, 1, 9}, {0, 2, 9}, {0, 3, 4}, {1, 2, 4}, {1, 3, 1}, {2, 3, 0}};
        for (int[] bar : bars) {
            x.bar(bar[0], bar[1], bar[2]);
        }
        same(20, "cheapest()", x.cheapest(), 18);
        same(21, "cheap(0): of one cost by numbers", x.cheap(0), 1);
        same(21, "cheap(1)", x.cheap(1), 0);
        same(21, "cheap(5)", x.cheap(5), 1);
        same(9, "kept(5) goes by numbers", x.kept(5), 0);
        x.cost(0, 10);
        same(20, "cheapest() with another cost", x.cheapest(), 18);
        same(21, "cheap(0) with another cost", x.cheap(0), 0);
        same(21, "cheap(1) with another cost", x.cheap(1), 1);
        x.cut(5, true);
        same(20, "cheapest() with a bar cut", x.cheapest(), 28);
        same(21, "cheap(5)", x.cheap(5), -9);
        same(21, "cheap(0)", x.cheap(0), 1);
        same(21, "cheap(6)", x.cheap(6), -1);
        same(21, "cheap(-1)", x.cheap(-1), -1);
        StiffFrames free = joints(2);
        free.bar(0, 1, 0);
        same(20, "cheapest() of a bar of cost 0", free.cheapest(), 0);
    }

    private void fewest() {
        StiffFrames x = joints(4);
        int[] due = {1, 2, 3, 102, 103};
        same(22, "fewest()", x.fewest(), 5);
        for (int i = 0; i < 5; i++) {
            same(23, "fewestAt(" + i + ")", x.fewestAt(i), due[i]);
        }
        same(23, "fewestAt(5)", x.fewestAt(5), -9);
        same(23, "fewestAt(-1)", x.fewestAt(-1), -9);
        same(23, "fewestAt(LOW)", x.fewestAt(LOW), -9);
        x.bar(0, 1, 0);
        x.cut(0, true);
        same(22, "fewest() past a cut bar", x.fewest(), 5);
        same(23, "fewestAt(0)", x.fewestAt(0), 2);
        same(23, "fewestAt(4)", x.fewestAt(4), 203);
        x.bar(0, 2, 0);
        x.cut(1, true);
        same(22, "fewest() where two are cut", x.fewest(), 4);
        same(22, "fewest() of a stiff one", allBars(5).fewest(), 0);
        same(22, "fewest() of one joint", joints(1).fewest(), 0);
        StiffFrames greatest = joints(24);
        same(22, "fewest() of 24 joints", greatest.fewest(), 45);
        same(23, "fewestAt(22)", greatest.fewestAt(22), 23);
        same(23, "fewestAt(44)", greatest.fewestAt(44), 123);
        same(23, "nothing has come", greatest.count(1), 0);
    }

    private void fewestAfterChanges() {
        StiffFrames x = twoSquares();
        same(23, "fewestAt(1)", x.fewestAt(1), 107);
        same(23, "fewestAt(2)", x.fewestAt(2), -9);
        x.joint();
        same(23, "fewestAt(1) with a joint more", x.fewestAt(1), 8);
        same(23, "fewestAt(3) with a joint more", x.fewestAt(3), 108);
        x.bar(0, 8, 0);
        same(22, "fewest() with its bar", x.fewest(), 3);
        x.cut(13, true);
        same(23, "fewestAt(1) with its bar cut", x.fewestAt(1), 107);
        same(23, "fewestAt(3) with its bar cut", x.fewestAt(3), 208);
    }

    private void back() {
        StiffFrames x = frame(5, 1, 102, 2, 203, 3);
        int[] joints = {4, 1, 0, 2, 3};
        int[] steps = {0, 2, 2, 1, 0};
        for (int i = 0; i < 5; i++) {
            same(24, "back(" + i + ", 0)", x.back(i, 0), joints[i]);
            same(24, "back(" + i + ", 1)", x.back(i, 1), steps[i]);
            same(24, "back(" + i + ", 2)", x.back(i, 2), -9);
        }
        same(24, "back(5, 0)", x.back(5, 0), -9);
        same(24, "back(-1, 1)", x.back(-1, 1), -9);
        same(24, "back(HIGH, 2)", x.back(HIGH, 2), -9);
        same(24, "back(0, -1)", x.back(0, -1), -2);
        same(24, "back(0, 3)", x.back(0, 3), -2);
        same(24, "back(-1, 3): a refusal goes ahead", x.back(-1, 3), -2);
        same(24, "count(12)", x.count(12), 3);
        same(25, "threes()", x.threes(), 0);
        same(25, "threes() of three and three", frame(6, 3, 4, 5, 103, 104, 105, 203, 204, 205).threes(), 1);
        same(25, "count(1): nothing has come", x.count(1), 5);
    }

    /** Two triangles with three bars between them: each joint has three, and bars are between the first neighbours. */
    private void backPastBars() {
        StiffFrames x = frame(6, 1, 2, 102, 304, 305, 405, 3, 104, 205);
        same(24, "back(0, 0)", x.back(0, 0), 0);
        same(24, "back(0, 1)", x.back(0, 1), 3);
        same(24, "back(0, 2): first with third", x.back(0, 2), 103);
        same(24, "back(1, 0)", x.back(1, 0), 2);
        same(24, "back(1, 1)", x.back(1, 1), 2);
        same(25, "threes()", x.threes(), 1);
    }

    /** A bar that is there but left, or cut, is no bar of the steps back. */
    private void backWithOthers() {
        StiffFrames x = frame(6, 3, 4, 5, 103, 104, 105, 203, 204, 205, 304);
        same(24, "back(0, 2) with a bar that is left between", x.back(0, 2), 304);
        x.cut(9, true);
        same(24, "back(0, 2) with a cut bar between", x.back(0, 2), 304);
    }

    private void bundles() {
        StiffFrames x = twoSquares();
        same(26, "bundles()", x.bundles(), 3);
        same(27, "bundle(0)", x.bundle(0), 0);
        same(27, "bundle(5)", x.bundle(5), 0);
        same(27, "bundle(6)", x.bundle(6), 1);
        same(27, "bundle(11)", x.bundle(11), 1);
        same(27, "bundle(12)", x.bundle(12), 2);
        same(27, "bundle(13)", x.bundle(13), -1);
        same(27, "bundle(-1)", x.bundle(-1), -1);
        x.cut(0, true);
        same(26, "bundles() with a bar cut", x.bundles(), 7);
        same(27, "bundle(0)", x.bundle(0), -9);
        same(27, "bundle(1)", x.bundle(1), 0);
        same(27, "bundle(5)", x.bundle(5), 4);
        same(27, "bundle(6)", x.bundle(6), 5);
        same(27, "bundle(12)", x.bundle(12), 6);
    }

    /** Two circuits with bars in common are one bundle. */
    private void bundlesThroughThird() {
        StiffFrames x = frame(5, 1, 2, 3, 102, 103, 104, 204, 304, 203);
        same(26, "bundles()", x.bundles(), 1);
        StiffFrames y = frame(6, 405, 1, 2, 3, 102, 103, 203);
        same(26, "bundles() with one alone", y.bundles(), 2);
        same(27, "bundle(0)", y.bundle(0), 0);
        same(27, "bundle(6)", y.bundle(6), 1);
    }

    private void rankBy() {
        StiffFrames x = allBars(5);
        int[][] due = {{5, 4}, {10, 9, 8, 7}, {10, 10, 10, 10, 10, 10}};
        for (int k = 1; k <= 3; k++) {
            for (int l = 0; l < 2 * k; l++) {
                same(28, "rankBy(" + k + ", " + l + ")", x.rankBy(k, l), due[k - 1][l]);
            }
        }
        same(28, "rankBy(3, 5) of six joints", allBars(6).rankBy(3, 5), 13);
        same(28, "rankBy(0, 0)", x.rankBy(0, 0), -4);
        same(28, "rankBy(1, -1)", x.rankBy(1, -1), -4);
        same(28, "rankBy(4, -1): below goes ahead", x.rankBy(4, -1), -4);
        same(28, "rankBy(0, HIGH): below goes ahead", x.rankBy(0, HIGH), -4);
        same(28, "rankBy(LOW, LOW)", x.rankBy(LOW, LOW), -4);
        same(28, "rankBy(4, 0)", x.rankBy(4, 0), -6);
        same(28, "rankBy(HIGH, HIGH)", x.rankBy(HIGH, HIGH), -6);
        same(28, "rankBy(1, 2)", x.rankBy(1, 2), -6);
        same(28, "rankBy(2, 4)", x.rankBy(2, 4), -6);
        same(28, "rankBy(3, 6)", x.rankBy(3, 6), -6);
        same(28, "count(14)", x.count(14), 5);
        same(28, "count(16)", x.count(16), 5);
    }

    /** Bars that are left by K, L among the last joints that there can be. */
    private void rankByAtLastJoints() {
        StiffFrames x = joints(24);
        for (int a = 17; a < 24; a++) {
            for (int b = a + 1; b < 24; b++) {
                x.bar(a, b, 0);
            }
        }
        int[] due = {21, 20, 19, 18, 17, 16};
        for (int l = 0; l < due.length; l++) {
            same(28, "rankBy(3, " + l + ")", x.rankBy(3, l), due[l]);
        }
        same(28, "rankBy(2, 3)", x.rankBy(2, 3), 11);
        same(15, "size(0)", x.size(0), 7);
        same(16, "member(0, 6)", x.member(0, 6), 23);
    }

    private void keptBy() {
        StiffFrames x = allBars(4);
        same(29, "keptBy(3, 1, 1)", x.keptBy(3, 1, 1), 0);
        same(29, "keptBy(3, 1, 0)", x.keptBy(3, 1, 0), 1);
        same(29, "keptBy(4, 1, 0)", x.keptBy(4, 1, 0), 0);
        same(29, "keptBy(5, 2, 3)", x.keptBy(5, 2, 3), 0);
        same(29, "keptBy(5, 2, 2)", x.keptBy(5, 2, 2), 1);
        x.cut(0, true);
        same(29, "keptBy(0, 1, 1)", x.keptBy(0, 1, 1), -9);
        same(29, "keptBy(3, 1, 1)", x.keptBy(3, 1, 1), 1);
        same(29, "keptBy(0, 0, 0): a refusal goes ahead", x.keptBy(0, 0, 0), -4);
        same(29, "keptBy(0, 2, 4): a refusal goes ahead", x.keptBy(0, 2, 4), -6);
        same(29, "keptBy(6, 0, 0): nobody goes ahead", x.keptBy(6, 0, 0), -1);
        same(29, "keptBy(-1, 1, 1)", x.keptBy(-1, 1, 1), -1);
        same(29, "keptBy(1, 1, -1)", x.keptBy(1, 1, -1), -4);
        same(29, "keptBy(1, 4, 0)", x.keptBy(1, 4, 0), -6);
    }

    private void tight() {
        StiffFrames x = allBars(4);
        same(30, "tight(2, 3)", x.tight(2, 3), 2);
        same(30, "tight(2, 2)", x.tight(2, 2), 3);
        same(30, "tight(3, 3)", x.tight(3, 3), 1);
        same(30, "tight(1, 0)", x.tight(1, 0), 2);
        StiffFrames square = frame(5, 1, 102, 203, 3);
        same(30, "tight(1, 1) of a square and a joint", square.tight(1, 1), 0);
        same(30, "tight(1, 0) of a square and a joint", square.tight(1, 0), 1);
        same(30, "tight(1, 0) without joints", joints(0).tight(1, 0), 1);
        same(30, "tight(2, 0) without joints", joints(0).tight(2, 0), 1);
        same(30, "tight(3, 3) of one joint", joints(1).tight(3, 3), 3);
        same(30, "tight(2, 3) of one joint", joints(1).tight(2, 3), 1);
        same(30, "tight(0, 0)", x.tight(0, 0), -4);
        same(30, "tight(2, -1)", x.tight(2, -1), -4);
        same(30, "tight(4, 0)", x.tight(4, 0), -6);
        same(30, "tight(2, 4)", x.tight(2, 4), -6);
    }

    private void forests() {
        same(31, "a tree", frame(4, 1, 2, 3).forests(), 1);
        same(31, "a ring", frame(3, 1, 2, 102).forests(), 2);
        same(31, "all bars of five joints", allBars(5).forests(), 3);
        same(31, "all bars of six joints", allBars(6).forests(), 3);
        same(31, "all bars of seven joints", allBars(7).forests(), -9);
        StiffFrames x = frame(3, 1, 2, 102);
        x.cut(1, true);
        same(31, "a ring with a bar cut", x.forests(), 1);
    }

    private void barOf() {
        StiffFrames x = joints(3);
        x.bar(2, 1, 44);
        same(32, "barOf(0, 0)", x.barOf(0, 0), 1);
        same(32, "barOf(0, 1)", x.barOf(0, 1), 2);
        same(32, "barOf(0, 2)", x.barOf(0, 2), 44);
        same(32, "barOf(0, 3)", x.barOf(0, 3), 1);
        x.cut(0, true);
        same(32, "barOf(0, 3) cut", x.barOf(0, 3), 0);
        same(32, "barOf(0, 1) cut", x.barOf(0, 1), 2);
        same(32, "barOf(0, 4)", x.barOf(0, 4), -2);
        same(32, "barOf(0, -1)", x.barOf(0, -1), -2);
        same(32, "barOf(1, 4): nobody goes ahead", x.barOf(1, 4), -1);
        same(32, "barOf(-1, 0)", x.barOf(-1, 0), -1);
        same(32, "count(12)", x.count(12), 2);
    }

    private void count() {
        StiffFrames x = twoSquares();
        x.cut(0, true);
        int[] due = {8, 13, 12, 11, 6, 2};
        for (int what = 0; what < due.length; what++) {
            same(33, "count(" + what + ")", x.count(what), due[what]);
        }
        for (int what : new int[] {-1, 6, 7, 10, 17, LOW, HIGH}) {
            same(33, "count(" + what + ")", x.count(what), -9);
        }
        x.kept(99);
        x.barOf(0, 9);
        x.barOf(0, 10);
        x.circuit(1);
        x.circuit(1);
        x.circuit(1);
        x.cost(0, -1);
        x.cost(0, 1000);
        x.member(0, 99);
        int[] refusals = {1, 2, 3, 1, 0, 1};
        for (int i = 0; i < refusals.length; i++) {
            same(33, "count(" + (11 + i) + ")", x.count(11 + i), refusals[i]);
        }
    }

    private interface Ask {
        int of(StiffFrames x);
    }

    /** Each call as the first one that is asked, and again, when others have been asked, after a change. */
    private void askedFirst(int promise, String call, Ask ask, int first, int withJoint, int withCut) {
        same(promise, call + " first", ask.of(twoSquares()), first);
        StiffFrames x = twoSquares();
        ask.of(x);
        same(promise, call + " again", ask.of(x), first);
        x.joint();
        same(promise, call + " with a joint more", ask.of(x), withJoint);
        x.cut(0, true);
        same(promise, call + " with bar 0 cut", ask.of(x), withCut);
        x.cut(0, false);
        same(promise, call + " with bar 0 there again", ask.of(x), withJoint);
        x.bar(8, 0, 0);
        x.cut(13, true);
        same(promise, call + " with a cut bar more", ask.of(x), withJoint);
    }

    private void askedInAnyOrder() {
        askedFirst(6, "rank()", x -> x.rank(), 11, 11, 11);
        askedFirst(7, "freedom()", x -> x.freedom(), 5, 7, 7);
        askedFirst(9, "kept(5)", x -> x.kept(5), 0, 0, 1);
        askedFirst(10, "spare(1)", x -> x.spare(1), 1, 1, 0);
        askedFirst(11, "circuit(5)", x -> x.circuit(5), 5, 5, -3);
        askedFirst(12, "circuitBar(5, 1)", x -> x.circuitBar(5, 1), 1, 1, -3);
        askedFirst(13, "grows(0, 1)", x -> x.grows(0, 1), 0, 0, 0);
        askedFirst(14, "clusters()", x -> x.clusters(), 3, 3, 3);
        askedFirst(15, "size(2)", x -> x.size(2), 4, 4, 4);
        askedFirst(16, "member(2, 3)", x -> x.member(2, 3), 6, 6, 6);
        askedFirst(17, "together(0, 7)", x -> x.together(0, 7), 1, 1, 1);
        askedFirst(18, "hinge(0)", x -> x.hinge(0), 1, 1, 1);
        askedFirst(19, "pieces()", x -> x.pieces(), 1, 2, 2);
        askedFirst(20, "cheapest()", x -> x.cheapest(), 0, 0, 0);
        askedFirst(21, "cheap(5)", x -> x.cheap(5), 0, 0, 1);
        askedFirst(22, "fewest()", x -> x.fewest(), 2, 4, 4);
        askedFirst(23, "fewestAt(0)", x -> x.fewestAt(0), 4, 4, 4);
        askedFirst(24, "back(0, 0)", x -> x.back(0, 0), 7, 8, 8);
        askedFirst(24, "back(1, 1)", x -> x.back(1, 1), 2, 1, 1);
        askedFirst(25, "threes()", x -> x.threes(), 0, 0, 0);
        askedFirst(26, "bundles()", x -> x.bundles(), 3, 3, 7);
        askedFirst(27, "bundle(11)", x -> x.bundle(11), 1, 1, 5);
        askedFirst(28, "rankBy(1, 0)", x -> x.rankBy(1, 0), 8, 8, 8);
        askedFirst(29, "keptBy(2, 1, 1)", x -> x.keptBy(2, 1, 1), 1, 1, 1);
        askedFirst(30, "tight(1, 0)", x -> x.tight(1, 0), 2, 0, 0);
        askedFirst(31, "forests()", x -> x.forests(), 2, 2, 2);
        askedFirst(33, "count(3)", x -> x.count(3), 11, 11, 11);
        askedFirst(33, "count(4)", x -> x.count(4), 12, 12, 6);
        askedFirst(33, "count(5)", x -> x.count(5), 2, 2, 2);
    }

    private void clustersAfterCuts() {
        StiffFrames x = frame(3, 1, 102, 2);
        same(14, "clusters()", x.clusters(), 1);
        x.cut(1, true);
        same(14, "clusters() with a bar cut", x.clusters(), 2);
        same(13, "grows(1, 2)", x.grows(1, 2), 1);
        same(18, "hinge(0)", x.hinge(0), 1);
        x.cut(0, true);
        x.cut(2, true);
        same(14, "clusters() with all cut", x.clusters(), 0);
        same(26, "bundles() with all cut", x.bundles(), 0);
        same(24, "back(0, 1) with all cut", x.back(0, 1), 0);
        same(31, "forests() with all cut", x.forests(), 1);
        same(30, "tight(1, 0) with all cut", x.tight(1, 0), 1);
    }

    /** Other counts go by numbers, whatever the costs are. */
    private void numbersNotCosts() {
        StiffFrames x = joints(3);
        x.bar(0, 1, 9);
        x.bar(0, 2, 8);
        x.bar(1, 2, 7);
        same(29, "keptBy(0, 1, 1)", x.keptBy(0, 1, 1), 1);
        same(29, "keptBy(2, 1, 1)", x.keptBy(2, 1, 1), 0);
        same(29, "keptBy(2, 1, 0)", x.keptBy(2, 1, 0), 1);
        same(28, "rankBy(1, 1)", x.rankBy(1, 1), 2);
        same(28, "rankBy(2, 1)", x.rankBy(2, 1), 3);
        x.cost(1, 0);
        same(20, "cheapest() of all three", x.cheapest(), 16);
    }

    public static void main(String[] args) {
        PromisesTest test = new PromisesTest();
        test.newObject();
        test.joint();
        test.bar();
        test.eightyBars();
        test.neededAmongEighty();
        test.cut();
        test.cost();
        test.rankAndFreedom();
        test.stiff();
        test.kept();
        test.spare();
        test.circuit();
        test.circuitOfSome();
        test.grows();
        test.clusters();
        test.ringOfTriangles();
        test.togetherAndHinge();
        test.pieces();
        test.cheapest();
        test.fewest();
        test.fewestAfterChanges();
        test.back();
        test.backPastBars();
        test.backWithOthers();
        test.bundles();
        test.bundlesThroughThird();
        test.rankBy();
        test.rankByAtLastJoints();
        test.keptBy();
        test.tight();
        test.forests();
        test.barOf();
        test.count();
        test.askedInAnyOrder();
        test.clustersAfterCuts();
        test.numbersNotCosts();
        test.due.end();
    }
}
