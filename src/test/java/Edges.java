import java.util.ArrayList;
import java.util.Arrays;
import java.util.List;

/**
 * Rows of boundary cases. Each row quotes the words of the document that it holds, makes a frame of its own and asks
 * one thing of it; and each sees to it that what must not change has not.
 */
abstract class Edges extends Frames {
    private static final int FIRST_REFUSAL = 11;
    private static final int REFUSALS = 6;

    interface Make {
        StiffFrames frame();
    }

    interface Ask {
        int of(StiffFrames x);
    }

    private final Due due;
    private final Quotes quotes;
    private int promise;

    Edges(Due due, Quotes quotes) {
        this.due = due;
        this.quotes = quotes;
    }

    abstract void rows();

    /** The rows that follow quote this promise; with 0, what stands ahead of the promises. */
    final void promise(int number) {
        promise = number;
    }

    /** A call that changes the frame as it may: it is no refusal. */
    final void does(String words, String what, Make make, Ask ask, int want) {
        quotes.quote(promise, words);
        row(words, what, make, ask, want, 0);
    }

    /** A call that only tells: nothing changes, and it is no refusal. */
    final void answers(String words, String what, Make make, Ask ask, int want) {
        does(words, what, make, ask, want);
        staysAsItWas(words, what, make, ask);
    }

    /** A refused call: nothing changes but how many of its number there were. */
    final void refused(String words, String what, Make make, Ask ask, int want) {
        quotes.quote(promise, words);
        first(words, what, make, ask, want);
    }

    /** A refused call that another answer fits too; as it says nothing new of either, nothing is quoted by it. */
    final void first(String words, String what, Make make, Ask ask, int want) {
        row(words, what, make, ask, want, want);
        staysAsItWas(words, what, make, ask);
    }

    /** An answer alone, where the rows' own calls would be too many. */
    final void told(String words, String what, int got, int want) {
        quotes.quote(promise, words);
        due.holds(name(words, what) + ": the document says so", quotes.says(promise, words));
        due.same(name(words, what), got, want);
    }

    private String name(String words, String what) {
        return "promise " + promise + " \"" + words + "\", " + what;
    }

    private void row(String words, String what, Make make, Ask ask, int want, int refusal) {
        String name = name(words, what);
        due.holds(name + ": the document says so", quotes.says(promise, words));
        try {
            StiffFrames x = make.frame();
            int[] before = refusals(x);
            due.same(name, ask.of(x), want);
            int[] after = refusals(x);
            for (int i = 0; i < REFUSALS; i++) {
                int more = refusal == -1 - i ? 1 : 0;
                due.same(name + ": count(" + (FIRST_REFUSAL + i) + ")", after[i], before[i] + more);
            }
        } catch (RuntimeException thrown) {
            due.holds(name + ": nothing is thrown, but " + thrown, false);
        }
    }

    private void staysAsItWas(String words, String what, Make make, Ask ask) {
        String name = name(words, what);
        try {
            StiffFrames asked = make.frame();
            ask.of(asked);
            due.holds(name + ": nothing else has changed", all(asked).equals(all(make.frame())));
        } catch (RuntimeException thrown) {
            due.holds(name + ": nothing is thrown, but " + thrown, false);
        }
    }

    private static int[] refusals(StiffFrames x) {
        int[] counts = new int[REFUSALS];
        for (int i = 0; i < REFUSALS; i++) {
            counts[i] = x.count(FIRST_REFUSAL + i);
        }
        return counts;
    }

    /** What a frame tells of itself, in some 330 calls at most, as an object is good for 512; none of them is refused. */
    private static List<Integer> all(StiffFrames x) {
        List<Integer> told = new ArrayList<>();
        for (int what = 0; what <= 5; what++) {
            told.add(x.count(what));
        }
        told.addAll(List.of(x.rank(), x.freedom(), x.stiff(), x.pieces(), x.cheapest(), x.threes(), x.bundles(), x.forests()));
        int bars = x.count(1);
        for (int bar = 0; bar < bars; bar++) {
            // Of many bars the first and the last ones will do.
            if (bar < 12 || bar >= bars - 3) {
                told.addAll(List.of(x.barOf(bar, 0), x.barOf(bar, 1), x.barOf(bar, 2), x.barOf(bar, 3)));
                told.addAll(List.of(x.kept(bar), x.spare(bar), x.cheap(bar), x.bundle(bar)));
            }
        }
        int joints = x.count(0);
        for (int i = 0; i < joints; i++) {
            told.addAll(List.of(x.hinge(i), x.back(i, 0), x.back(i, 1), x.back(i, 2)));
        }
        int clusters = x.clusters();
        for (int i = 0; i < clusters; i++) {
            told.add(x.size(i));
        }
        int fewest = x.fewest();
        for (int i = 0; i < fewest; i++) {
            told.add(x.fewestAt(i));
        }
        return told;
    }

    /** Numbers that are none of 0 .. bound - 1: the nearest ones, and those that a shift or a narrow type would fold. */
    static int[] outside(int bound) {
        int[] far = {-1, -32, LOW, LOW + 1, bound, 24, 32, 80, 128, 256, 65536, HIGH};
        return Arrays.stream(far).filter(number -> number < 0 || number >= bound).distinct().toArray();
    }
}
