import java.util.List;

/** The program and the model in the same state: every call is made on both and compared. */
final class SideBySide {
    /** The document promises nothing about an object after this many calls. */
    private static final int CALLS = 512;

    final Model model;
    private final StablePairs program;
    private final String label;
    private final Answers answers;
    private List<int[]> stables;
    private int calls;

    SideBySide(String label, int size, Answers answers) {
        this.label = label;
        this.answers = answers;
        program = new StablePairs(size);
        model = new Model(size);
        stables = model.stables();
    }

    int calls() {
        return calls;
    }

    int stableCount() {
        return stables.size();
    }

    private void due(String call, int got, int want) {
        calls++;
        answers.holds(label + " keeps to " + CALLS + " calls", calls <= CALLS);
        answers.due(label + ": " + call, got, want);
    }

    void seekerLikes(int seeker, int place, int value) {
        int want = model.like(model.seekerLiking, seeker, place, value);
        stables = null;
        String call = "seekerLikes(" + seeker + ", " + place + ", " + value + ")";
        due(call, program.seekerLikes(seeker, place, value), want);
    }

    void placeLikes(int place, int seeker, int value) {
        int want = model.like(model.placeLiking, place, seeker, value);
        stables = null;
        String call = "placeLikes(" + place + ", " + seeker + ", " + value + ")";
        due(call, program.placeLikes(place, seeker, value), want);
    }

    void likeAll(int side, int who, int start, int step) {
        int want = model.likeAll(side, who, start, step);
        stables = null;
        String call = "likeAll(" + side + ", " + who + ", " + start + ", " + step + ")";
        due(call, program.likeAll(side, who, start, step), want);
    }

    /** To be called after the likings have changed and before a question. */
    void settle() {
        stables = model.stables();
    }

    void size() {
        due("size()", program.size(), model.n);
    }

    void fitting(int s, int p) {
        boolean good = model.good(s) && model.good(p);
        int want = !good ? -1 : model.fits(s, p) ? 1 : 0;
        due("fitting(" + s + ", " + p + ")", program.fitting(s, p), want);
    }

    void stables() {
        due("stables()", program.stables(), stables.size());
    }

    private boolean isPosition(int i) {
        return i >= 0 && i < stables.size();
    }

    void stable(int i) {
        int want = isPosition(i) ? model.number(stables.get(i)) : -1;
        due("stable(" + i + ")", program.stable(i), want);
    }

    void blocking(int number) {
        int want = -1;
        for (int[] places : model.matchings()) {
            if (model.number(places) == number) {
                want = model.blocking(places);
            }
        }
        due("blocking(" + number + ")", program.blocking(number), want);
    }

    /** The seeker's places in stable matchings, the most preferred first. */
    private List<Integer> stablePlaces(int s) {
        List<Integer> order = model.order(model.seekerLiking[s]);
        order.removeIf(p -> stables.stream().noneMatch(m -> m[s] == p));
        return order;
    }

    void bestFor(int s) {
        int want = -1;
        if (model.good(s)) {
            List<Integer> places = stablePlaces(s);
            want = places.isEmpty() ? -2 : places.get(0);
        }
        due("bestFor(" + s + ")", program.bestFor(s), want);
    }

    void worstFor(int s) {
        int want = -1;
        if (model.good(s)) {
            List<Integer> places = stablePlaces(s);
            want = places.isEmpty() ? -2 : places.get(places.size() - 1);
        }
        due("worstFor(" + s + ")", program.worstFor(s), want);
    }

    void together(int s, int p) {
        boolean good = model.good(s) && model.good(p);
        int want = good ? (int) stables.stream().filter(m -> m[s] == p).count() : -1;
        due("together(" + s + ", " + p + ")", program.together(s, p), want);
    }

    void placed() {
        int want = 0;
        for (int s = 0; s < model.n; s++) {
            int seeker = s;
            want += stables.stream().allMatch(m -> m[seeker] >= 0) ? 1 : 0;
        }
        due("placed()", program.placed(), want);
    }

    private int least() {
        return stables.stream().mapToInt(model::cost).min().orElseThrow();
    }

    void leastCost() {
        due("leastCost()", program.leastCost(), least());
    }

    void fairest() {
        int least = least();
        int want = stables.stream().filter(m -> model.cost(m) == least)
                .mapToInt(model::number).min().orElseThrow();
        due("fairest()", program.fairest(), want);
    }

    void better(int i, int j) {
        String call = "better(" + i + ", " + j + ")";
        if (!isPosition(i) || !isPosition(j)) {
            due(call, program.better(i, j), -1);
            return;
        }
        int[] joined = new int[model.n];
        for (int s = 0; s < model.n; s++) {
            int p = stables.get(i)[s];
            int q = stables.get(j)[s];
            boolean first = q < 0 || p >= 0 && model.prefers(model.seekerLiking[s], p, q);
            joined[s] = first ? p : q;
        }
        int want = model.number(joined);
        due(call, program.better(i, j), want);
        answers.holds(label + ": " + call + " is stable again",
                stables.stream().anyMatch(m -> model.number(m) == want));
    }

    /** Setting each liking to what the model holds tells what the program held. */
    void readLikings() {
        for (int a = 0; a < model.n; a++) {
            for (int b = 0; b < model.n; b++) {
                seekerLikes(a, b, model.seekerLiking[a][b]);
                placeLikes(a, b, model.placeLiking[a][b]);
            }
        }
        settle();
    }
}
