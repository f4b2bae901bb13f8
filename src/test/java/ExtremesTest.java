/**
 * No call may throw or fail to end, for any arguments: every method, on objects of every size, new
 * and filled, with every choice out of arguments that are far out or would come back into bounds
 * when multiplied by 5 or 6, cut to fewer bits, or taken modulo 9.
 */
public final class ExtremesTest {
    private static final int MIN = Examples.MIN;
    private static final int MAX = Examples.MAX;
    /** Leaves room, below the 512 calls of an object, for reading all likings. */
    private static final int BATCH = 400;
    private static final int[] FAR = {
        MIN, MIN + 1, -858993459, -7776, -9, -6, -5, -2, -1, 0, 1, 2, 3, 4, 5, 6, 8, 9, 10, 36, 216,
        256, 1296, 7465, 7775, 7776, 65536, 715827883, 858993459, 858993460, MAX - 1, MAX,
    };
    private static final int[] FEW = {MIN, -1, 0, 1, 2, 4, 5, 8, 9, 256, 858993460, MAX};
    private static final Answers answers = new Answers();

    private final int size;
    private final boolean filled;
    private SideBySide both;

    private ExtremesTest(int size, boolean filled) {
        this.size = size;
        this.filled = filled;
        start();
    }

    public static void main(String[] args) {
        answers.test("no call may ever throw", ExtremesTest::runAll);
        answers.end();
    }

    private static void runAll() {
        for (int size : FAR) {
            new ExtremesTest(size, false).both.size();
        }
        for (int size = 2; size <= 5; size++) {
            new ExtremesTest(size, false).askAll();
            new ExtremesTest(size, true).askAll();
            new ExtremesTest(size, true).setAll();
        }
    }

    private void start() {
        both = new SideBySide("size " + size + (filled ? ", filled" : ", new"), size, answers);
        for (int who = 0; filled && who < size; who++) {
            both.likeAll(0, who, 8 - 2 * who, 8);
            both.likeAll(1, who, 2 * who, 1);
        }
        both.settle();
    }

    private void startAgainWhenUsed() {
        if (both.calls() >= BATCH) {
            both.readLikings();
            start();
        }
    }

    private void askAll() {
        both.stables();
        both.placed();
        both.leastCost();
        both.fairest();
        for (int a : FAR) {
            both.stable(a);
            both.blocking(a);
            both.bestFor(a);
            both.worstFor(a);
            for (int b : FAR) {
                startAgainWhenUsed();
                both.fitting(a, b);
                both.together(a, b);
                both.better(a, b);
            }
        }
        both.readLikings();
    }

    private void setAll() {
        for (int a : FEW) {
            for (int b : FEW) {
                for (int c : FEW) {
                    startAgainWhenUsed();
                    both.seekerLikes(a, b, c);
                    both.placeLikes(a, b, c);
                    setAllOf(a, b, c);
                }
            }
        }
        both.readLikings();
    }

    private void setAllOf(int side, int who, int start) {
        for (int step : FEW) {
            both.likeAll(side, who, start, step);
        }
    }
}
