import java.util.List;

/** Long runs of calls, good and bad, on the program and on the model side by side. */
public final class ModelTest {
    private static final int RUNS = 120;
    private static final int CHANGES = 16;
    private static final Answers answers = new Answers();

    private final SideBySide both;
    private final int n;
    private long state;

    private ModelTest(int run) {
        both = new SideBySide("run " + run, 1 + run % 6, answers);
        n = both.model.n;
        state = run;
    }

    public static void main(String[] args) {
        for (int run = 0; run < RUNS; run++) {
            ModelTest test = new ModelTest(run);
            test.fill();
            test.askAll();
            for (int k = 0; k < CHANGES; k++) {
                test.change();
                test.askSome();
            }
            test.askAll();
            test.both.readLikings();
        }
        answers.end();
    }

    /** The same numbers in every session: a plain multiplier, no source of chance. */
    private int pick(int least, int greatest) {
        state = state * 6364136223846793005L + 1442695040888963407L;
        return least + (int) ((state >>> 33) % (greatest - least + 1));
    }

    /** From just below the good ones to just above. */
    private int pickWho() {
        return pick(-1, n);
    }

    private int pickPosition() {
        return pick(-1, both.stableCount());
    }

    /** Few different likings make ties, many make several stable matchings. */
    private void fill() {
        int greatest = pick(1, 9);
        int least = pick(0, 2) == 0 ? 0 : 1;
        for (int a = 0; a < n; a++) {
            for (int b = 0; b < n; b++) {
                both.seekerLikes(a, b, pick(least, greatest));
                both.placeLikes(a, b, pick(least, greatest));
            }
        }
        both.settle();
    }

    private void change() {
        switch (pick(0, 3)) {
            case 0 -> both.seekerLikes(pickWho(), pickWho(), pick(-1, 10));
            case 1 -> both.placeLikes(pickWho(), pickWho(), pick(-1, 10));
            default -> both.likeAll(pick(0, 8) == 0 ? 2 : pick(0, 1), pickWho(), pick(-1, 9), pick(-1, 9));
        }
        both.settle();
    }

    private void askSome() {
        both.stables();
        both.stable(pickPosition());
        askSeeker(pickWho());
        askPair(pickWho(), pickWho());
        both.blocking(pick(-1, 8000));
    }

    private void askAll() {
        both.size();
        both.stables();
        for (int i = -1; i <= both.stableCount(); i++) {
            both.stable(i);
            both.better(i, pickPosition());
        }
        for (int s = -1; s <= n; s++) {
            askSeeker(s);
            askPair(s, pickWho());
        }
        both.placed();
        both.leastCost();
        both.fairest();
        List<int[]> matchings = both.model.matchings();
        for (int k = 0; k < 8; k++) {
            both.blocking(both.model.number(matchings.get(pick(0, matchings.size() - 1))));
            both.blocking(pick(0, 7775));
        }
    }

    private void askSeeker(int s) {
        both.bestFor(s);
        both.worstFor(s);
    }

    private void askPair(int s, int p) {
        both.fitting(s, p);
        both.together(s, p);
    }
}
