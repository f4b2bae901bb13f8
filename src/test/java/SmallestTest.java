/**
 * The least size whole: with the likings 0, 1 and 2 two seekers and two places show every order of
 * likings, every tie and every pair that does not fit. Each of these states is asked everything.
 */
public final class SmallestTest {
    private static final int STATES = 6561;
    private static final int N = 2;
    private static final Answers answers = new Answers();

    public static void main(String[] args) {
        for (int state = 0; state < STATES; state++) {
            SideBySide both = new SideBySide("state " + state, N, answers);
            fill(both, state);
            askAll(both);
            both.readLikings();
        }
        answers.end();
    }

    /** The digits of the state in base 3 are the likings. */
    private static void fill(SideBySide both, int state) {
        int rest = state;
        for (int a = 0; a < N; a++) {
            for (int b = 0; b < N; b++) {
                both.seekerLikes(a, b, rest % 3);
                both.placeLikes(a, b, rest / 3 % 3);
                rest /= 9;
            }
        }
        both.settle();
    }

    private static void askAll(SideBySide both) {
        both.size();
        both.stables();
        both.placed();
        both.leastCost();
        both.fairest();
        answers.holds("there always is a stable matching", both.stableCount() > 0);
        for (int number = -1; number <= 36; number++) {
            both.blocking(number);
        }
        for (int i = -1; i <= both.stableCount(); i++) {
            both.stable(i);
            for (int j = -1; j <= both.stableCount(); j++) {
                both.better(i, j);
            }
        }
        for (int a = -1; a <= N; a++) {
            both.bestFor(a);
            both.worstFor(a);
            for (int b = -1; b <= N; b++) {
                both.fitting(a, b);
                both.together(a, b);
            }
        }
    }
}
