import java.util.List;

/** Long runs of calls, good and bad, on the program and on the model side by side. */
public final class ModelTest {
    private static final int RUNS = 120;
    private static final int CHANGES = 16;
    private static final Answers answers = new Answers();

    private final int run;
    private final StablePairs program;
    private final Model model;
    private long state;
    private int calls;

    private ModelTest(int run) {
        this.run = run;
        this.state = run;
        int size = 1 + run % 6;
        program = new StablePairs(size);
        model = new Model(size);
    }

    public static void main(String[] args) {
        for (int run = 0; run < RUNS; run++) {
            ModelTest test = new ModelTest(run);
            test.fill();
            test.askAll();
            for (int k = 0; k < CHANGES; k++) {
                test.change();
                test.askSome();
            }
            test.askAll();
            test.readLikings();
            answers.holds("a run keeps to 512 calls, not " + test.calls, test.calls <= 512);
        }
        answers.end();
    }

    /** The same numbers in every session: a plain multiplier, no source of chance. */
    private int pick(int least, int greatest) {
        state = state * 6364136223846793005L + 1442695040888963407L;
        return least + (int) ((state >>> 33) % (greatest - least + 1));
    }

    private void due(String call, int got, int want) {
        calls++;
        answers.due("run " + run + ": " + call, got, want);
    }

    /** Few different likings make ties, many make several stable matchings. */
    private void fill() {
        int greatest = pick(1, 9);
        int least = pick(0, 2) == 0 ? 0 : 1;
        for (int a = 0; a < model.n; a++) {
            for (int b = 0; b < model.n; b++) {
                seekerLikes(a, b, pick(least, greatest));
                placeLikes(a, b, pick(least, greatest));
            }
        }
    }

    private void change() {
        int n = model.n;
        switch (pick(0, 3)) {
            case 0 -> seekerLikes(pick(-1, n), pick(-1, n), pick(-1, 10));
            case 1 -> placeLikes(pick(-1, n), pick(-1, n), pick(-1, 10));
            default -> likeAll(pick(0, 8) == 0 ? 2 : pick(0, 1), pick(-1, n), pick(-1, 9), pick(-1, 9));
        }
    }

    private void seekerLikes(int seeker, int place, int value) {
        int want = model.like(model.seekerLiking, seeker, place, value);
        String call = "seekerLikes(" + seeker + ", " + place + ", " + value + ")";
        due(call, program.seekerLikes(seeker, place, value), want);
    }

    private void placeLikes(int place, int seeker, int value) {
        int want = model.like(model.placeLiking, place, seeker, value);
        String call = "placeLikes(" + place + ", " + seeker + ", " + value + ")";
        due(call, program.placeLikes(place, seeker, value), want);
    }

    private void likeAll(int side, int who, int start, int step) {
        int want = model.likeAll(side, who, start, step);
        String call = "likeAll(" + side + ", " + who + ", " + start + ", " + step + ")";
        due(call, program.likeAll(side, who, start, step), want);
    }

    private void askSome() {
        List<int[]> stables = model.stables();
        due("stables()", program.stables(), stables.size());
        askStable(pick(-1, stables.size()), stables);
        askSeeker(pick(-1, model.n), stables);
        askPair(pick(-1, model.n), pick(-1, model.n), stables);
        askBlocking(pick(-1, 8000));
    }

    private void askAll() {
        List<int[]> stables = model.stables();
        due("size()", program.size(), model.n);
        due("stables()", program.stables(), stables.size());
        for (int i = -1; i <= stables.size(); i++) {
            askStable(i, stables);
            askBetter(i, pick(-1, stables.size()), stables);
        }
        for (int s = -1; s <= model.n; s++) {
            askSeeker(s, stables);
            askPair(s, pick(-1, model.n), stables);
        }
        askWhole(stables);
        List<int[]> matchings = model.matchings();
        for (int k = 0; k < 8; k++) {
            askBlocking(model.number(matchings.get(pick(0, matchings.size() - 1))));
            askBlocking(pick(0, 7775));
        }
    }

    private void askStable(int i, List<int[]> stables) {
        boolean there = i >= 0 && i < stables.size();
        due("stable(" + i + ")", program.stable(i), there ? model.number(stables.get(i)) : -1);
    }

    private void askBetter(int i, int j, List<int[]> stables) {
        int got = program.better(i, j);
        String call = "better(" + i + ", " + j + ")";
        if (Math.min(i, j) < 0 || Math.max(i, j) >= stables.size()) {
            due(call, got, -1);
            return;
        }
        int[] joined = new int[model.n];
        for (int s = 0; s < model.n; s++) {
            int p = stables.get(i)[s];
            int q = stables.get(j)[s];
            boolean first = q < 0 || p >= 0 && model.prefers(model.seekerLiking[s], p, q);
            joined[s] = first ? p : q;
        }
        due(call, got, model.number(joined));
        answers.holds(call + " is stable", stables.stream().anyMatch(m -> model.number(m) == got));
    }

    private void askSeeker(int s, List<int[]> stables) {
        int best = -1;
        int worst = -1;
        if (model.good(s)) {
            List<Integer> order = model.order(model.seekerLiking[s]);
            order.removeIf(p -> stables.stream().noneMatch(m -> m[s] == p));
            best = order.isEmpty() ? -2 : order.get(0);
            worst = order.isEmpty() ? -2 : order.get(order.size() - 1);
        }
        due("bestFor(" + s + ")", program.bestFor(s), best);
        due("worstFor(" + s + ")", program.worstFor(s), worst);
    }

    private void askPair(int s, int p, List<int[]> stables) {
        boolean good = model.good(s) && model.good(p);
        int fitting = !good ? -1 : model.fits(s, p) ? 1 : 0;
        int together = !good ? -1 : (int) stables.stream().filter(m -> m[s] == p).count();
        due("fitting(" + s + ", " + p + ")", program.fitting(s, p), fitting);
        due("together(" + s + ", " + p + ")", program.together(s, p), together);
    }

    private void askWhole(List<int[]> stables) {
        int placed = 0;
        for (int s = 0; s < model.n; s++) {
            int seeker = s;
            placed += stables.stream().allMatch(m -> m[seeker] >= 0) ? 1 : 0;
        }
        due("placed()", program.placed(), placed);
        int least = stables.stream().mapToInt(model::cost).min().orElseThrow();
        due("leastCost()", program.leastCost(), least);
        int fairest = stables.stream().filter(m -> model.cost(m) == least).mapToInt(model::number).min().orElseThrow();
        due("fairest()", program.fairest(), fairest);
    }

    private void askBlocking(int number) {
        int want = -1;
        for (int[] places : model.matchings()) {
            if (model.number(places) == number) {
                want = model.blocking(places);
            }
        }
        due("blocking(" + number + ")", program.blocking(number), want);
    }

    /** Setting each liking to what the model holds tells what the program held. */
    private void readLikings() {
        for (int a = 0; a < model.n; a++) {
            for (int b = 0; b < model.n; b++) {
                seekerLikes(a, b, model.seekerLiking[a][b]);
                placeLikes(a, b, model.placeLiking[a][b]);
            }
        }
    }
}
