/** Frames of which the tests are made. */
class Frames {
    static final int LOW = Integer.MIN_VALUE;
    static final int HIGH = Integer.MAX_VALUE;

    static StiffFrames joints(int n) {
        StiffFrames x = new StiffFrames();
        for (int i = 0; i < n; i++) {
            x.joint();
        }
        return x;
    }

    /** Joints, and bars of cost 0 between the pairs that follow, written as 100 times one and the other. */
    static StiffFrames frame(int n, int... pairs) {
        StiffFrames x = joints(n);
        for (int pair : pairs) {
            x.bar(pair / 100, pair % 100, 0);
        }
        return x;
    }

    static StiffFrames allBars(int n) {
        StiffFrames x = joints(n);
        for (int a = 0; a < n; a++) {
            for (int b = a + 1; b < n; b++) {
                x.bar(a, b, 0);
            }
        }
        return x;
    }

    static StiffFrames withCut(StiffFrames x, int... bars) {
        for (int bar : bars) {
            x.cut(bar, true);
        }
        return x;
    }

    static StiffFrames oneBar() {
        return frame(2, 1);
    }

    static StiffFrames triangle() {
        return frame(3, 1, 102, 2);
    }

    static StiffFrames square() {
        return frame(4, 1, 102, 203, 3);
    }

    /** Two stiff squares with both their diagonals, on joints 0 1 2 3 and 3 4 5 6, and a joint 7 with a bar to 0. */
    static StiffFrames twoSquares() {
        return frame(8, 1, 102, 203, 3, 2, 103, 304, 405, 506, 306, 305, 406, 7);
    }

    /** As many bars as are asked for between the joints: those between neighbours by number first, then wider ones. */
    static StiffFrames wide(int n, int bars, int cost) {
        StiffFrames x = joints(n);
        int number = 0;
        for (int step = 1; step < n; step++) {
            for (int a = 0; a + step < n && number < bars; a++) {
                x.bar(a, a + step, cost);
                number++;
            }
        }
        return x;
    }

    /** Triangles side by side on n joints: stiff, with no bar to spare: n less 1 bars, then n less 2. */
    static StiffFrames strip(int n, int cost) {
        return wide(n, 2 * n - 3, cost);
    }

    /** As many joints as there can be, stiff, and a bar that leans on all of its 45 bars. */
    static StiffFrames greatCircuit() {
        StiffFrames x = strip(24, 1);
        x.bar(0, 23, 1);
        return x;
    }

    /** As many joints and bars as there can be, each as dear as can be; none between 0 and 22. */
    static StiffFrames full() {
        return wide(24, 80, 999);
    }

    /** 24 joints, and 44 bars from 0 and 1 to all others: each of them is a cluster alone. */
    static StiffFrames spokes() {
        StiffFrames x = joints(24);
        for (int a = 0; a < 2; a++) {
            for (int b = 2; b < 24; b++) {
                x.bar(a, b, 0);
            }
        }
        return x;
    }

    /** Three joints with a bar to each of three others. */
    static StiffFrames threeAndThree() {
        return frame(6, 3, 4, 5, 103, 104, 105, 203, 204, 205);
    }
}
