import java.util.ArrayList;
import java.util.List;
import java.util.function.Consumer;

/** Each boundary case that the document names under 'Terms', in a case of its own. */
public final class TermsBoundaryTest {
    private static final int MIN = Examples.MIN;
    private static final int MAX = Examples.MAX;
    private static final int[] WEIGHTS = {1, 6, 36, 216, 1296};
    private static final Answers answers = new Answers();

    public static void main(String[] args) {
        likingsAndNumbers();
        matchingsAndCosts();
        changesAndOrder();
        answers.end();
    }

    private static void likingsAndNumbers() {
        test("seekers numbered 0 .. n-1", TermsBoundaryTest::seekersAreNumberedBelowN);
        test("places numbered 0 .. n-1", TermsBoundaryTest::placesAreNumberedBelowN);
        test("a liking 0 .. 9", TermsBoundaryTest::leastAndGreatestLiking);
        test("every seeker has a liking for every place", TermsBoundaryTest::everyLikingIsItsOwn);
        test("all are 0 at first", TermsBoundaryTest::allAreZeroAtFirst);
        test("the one with the greater liking", TermsBoundaryTest::greaterByOne);
        test("with the same liking the lesser number: of places", TermsBoundaryTest::tiedPlaces);
        test("with the same liking the lesser number: of seekers", TermsBoundaryTest::tiedSeekers);
        test("fitting if both are greater than 0", TermsBoundaryTest::fittingFromOneOn);
    }

    private static void matchingsAndCosts() {
        test("a set of no pairs is a matching", TermsBoundaryTest::emptyMatching);
        test("every place is in at most one pair", TermsBoundaryTest::noPlaceTwice);
        test("a set of fitting pairs", TermsBoundaryTest::noPairThatDoesNotFit);
        test("the sum of (p + 1) * 6^s", TermsBoundaryTest::numberOfEachPair);
        test("numbers are less than 7776", TermsBoundaryTest::greatestNumber);
        test("blocks if it is not in it", TermsBoundaryTest::ownPairDoesNotBlock);
        test("s is in no pair or prefers p", TermsBoundaryTest::seekerSideOfBlocking);
        test("p is in no pair or prefers s", TermsBoundaryTest::placeSideOfBlocking);
        test("a fitting pair blocks", TermsBoundaryTest::onlyFittingPairsBlock);
        test("there always is a stable one", TermsBoundaryTest::thereAlwaysIsOne);
        test("the rank counts those preferred alone", TermsBoundaryTest::leastAndGreatestRank);
        test("the rank counts fitting ones alone", TermsBoundaryTest::ranksOfFittingOnly);
        test("the cost is over its pairs", TermsBoundaryTest::nobodyWithoutPairCosts);
    }

    private static void changesAndOrder() {
        test("no question changes anything", TermsBoundaryTest::noQuestionChangesAnything);
        test("a refused seekerLikes changes nothing", TermsBoundaryTest::refusedSeekerLikes);
        test("a refused placeLikes changes nothing", TermsBoundaryTest::refusedPlaceLikes);
        test("a refused likeAll changes nothing", TermsBoundaryTest::refusedLikeAll);
        test("in the order named: seekerLikes", TermsBoundaryTest::orderInSeekerLikes);
        test("in the order named: placeLikes", TermsBoundaryTest::orderInPlaceLikes);
        test("in the order named: likeAll", TermsBoundaryTest::orderInLikeAll);
        test("in the order named: bestFor, worstFor", TermsBoundaryTest::orderInBestAndWorst);
        test("at most 512 calls", TermsBoundaryTest::callsUpToTheLast);
    }

    private static void test(String sentence, Runnable calls) {
        answers.test(sentence, calls);
    }

    private static void due(String call, long got, long want) {
        answers.due(call, got, want);
    }

    private static void seekersAreNumberedBelowN() {
        for (int n = 2; n <= 5; n++) {
            StablePairs x = new StablePairs(n);
            due("the first of " + n, x.seekerLikes(0, 0, 1), 0);
            due("the last of " + n, x.seekerLikes(n - 1, 0, 1), 0);
            for (int bad : new int[] {-1, n, 5, 6}) {
                String call = n + " seekers, number " + bad + ": ";
                due(call + "seekerLikes", x.seekerLikes(bad, 0, 1), -1);
                due(call + "placeLikes", x.placeLikes(0, bad, 1), -2);
                due(call + "likeAll", x.likeAll(0, bad, 1, 1), -2);
                due(call + "fitting", x.fitting(bad, 0), -1);
                due(call + "bestFor", x.bestFor(bad), -1);
                due(call + "worstFor", x.worstFor(bad), -1);
                due(call + "together", x.together(bad, 0), -1);
            }
        }
    }

    private static void placesAreNumberedBelowN() {
        for (int n = 2; n <= 5; n++) {
            StablePairs x = new StablePairs(n);
            due("the first of " + n, x.placeLikes(0, 0, 1), 0);
            due("the last of " + n, x.placeLikes(n - 1, 0, 1), 0);
            for (int bad : new int[] {-1, n, 5, 6}) {
                String call = n + " places, number " + bad + ": ";
                due(call + "placeLikes", x.placeLikes(bad, 0, 1), -1);
                due(call + "seekerLikes", x.seekerLikes(0, bad, 1), -2);
                due(call + "likeAll", x.likeAll(1, bad, 1, 1), -2);
                due(call + "fitting", x.fitting(0, bad), -1);
                due(call + "together", x.together(0, bad), -1);
            }
        }
    }

    private static void leastAndGreatestLiking() {
        StablePairs x = new StablePairs(2);
        x.seekerLikes(0, 1, 9);
        due("a seeker's 9 is kept", x.seekerLikes(0, 1, 0), 9);
        due("a seeker's 0 is kept", x.seekerLikes(0, 1, 9), 0);
        x.placeLikes(0, 1, 9);
        due("a place's 9 is kept", x.placeLikes(0, 1, 0), 9);
        due("a place's 0 is kept", x.placeLikes(0, 1, 9), 0);
    }

    /** Fifty likings, no two neighbours of which are the same. */
    private static void everyLikingIsItsOwn() {
        StablePairs x = new StablePairs(5);
        for (int a = 0; a < 5; a++) {
            for (int b = 0; b < 5; b++) {
                x.seekerLikes(a, b, (a + 2 * b) % 10);
                x.placeLikes(a, b, (9 + 3 * a + 7 * b) % 10);
            }
        }
        for (int a = 0; a < 5; a++) {
            for (int b = 0; b < 5; b++) {
                due("seeker " + a + " for " + b, x.seekerLikes(a, b, 0), (a + 2 * b) % 10);
                due("place " + a + " for " + b, x.placeLikes(a, b, 0), (9 + 3 * a + 7 * b) % 10);
            }
        }
    }

    private static void allAreZeroAtFirst() {
        for (int n = 2; n <= 5; n++) {
            StablePairs x = new StablePairs(n);
            due("fitting pairs of " + n, x.blocking(0), 0);
            for (int a = 0; a < n; a++) {
                for (int b = 0; b < n; b++) {
                    due("fitting(" + a + ", " + b + ")", x.fitting(a, b), 0);
                    due("seeker " + a + " for " + b, x.seekerLikes(a, b, 9), 0);
                    due("place " + a + " for " + b, x.placeLikes(a, b, 9), 0);
                }
            }
        }
    }

    private static void greaterByOne() {
        due("a seeker's 9 before 8", Examples.pairs("89 00", "10 10").stable(0), 2);
        due("a seeker's 2 before 1", Examples.pairs("12 00", "10 10").stable(0), 2);
        due("a place's 9 before 8", Examples.pairs("10 10", "89 00").stable(0), 6);
        due("a place's 2 before 1", Examples.pairs("10 10", "12 00").stable(0), 6);
    }

    private static void tiedPlaces() {
        for (int s = 0; s < 5; s++) {
            for (int p = 0; p < 5; p++) {
                for (int q = p + 1; q < 5; q++) {
                    StablePairs x = new StablePairs(5);
                    x.seekerLikes(s, p, 4);
                    x.seekerLikes(s, q, 4);
                    x.placeLikes(p, s, 1);
                    x.placeLikes(q, s, 9);
                    due("seeker " + s + " of " + p + ", " + q, x.stable(0), (p + 1) * WEIGHTS[s]);
                    due("the lesser one blocks", x.blocking((q + 1) * WEIGHTS[s]), 1);
                    due("the lesser one is its best", x.bestFor(s), p);
                    due("the lesser one ranks first", x.leastCost(), 0);
                }
            }
        }
    }

    private static void tiedSeekers() {
        for (int p = 0; p < 5; p++) {
            for (int s = 0; s < 5; s++) {
                for (int t = s + 1; t < 5; t++) {
                    StablePairs x = new StablePairs(5);
                    x.placeLikes(p, s, 4);
                    x.placeLikes(p, t, 4);
                    x.seekerLikes(s, p, 1);
                    x.seekerLikes(t, p, 9);
                    due("place " + p + " of " + s + ", " + t, x.stable(0), (p + 1) * WEIGHTS[s]);
                    due("the lesser one blocks", x.blocking((p + 1) * WEIGHTS[t]), 1);
                    due("the greater one is in no pair", x.bestFor(t), -2);
                    due("the lesser one ranks first", x.leastCost(), 0);
                }
            }
        }
    }

    private static void fittingFromOneOn() {
        due("1 and 1", Examples.pairs("01 00", "00 10").fitting(0, 1), 1);
        due("0 and 9", Examples.pairs("00 00", "00 90").fitting(0, 1), 0);
        due("9 and 0", Examples.pairs("09 00", "00 00").fitting(0, 1), 0);
        due("0 and 0", Examples.pairs("90 99", "99 09").fitting(0, 1), 0);
        due("9 and 9", Examples.pairs("09 00", "00 90").fitting(0, 1), 1);
    }

    private static void emptyMatching() {
        for (int n = 2; n <= 5; n++) {
            StablePairs x = new StablePairs(n);
            due("of " + n + ", it is stable while nobody fits", x.stable(0), 0);
            for (int who = 0; who < n; who++) {
                x.likeAll(0, who, 0, 0);
                x.likeAll(1, who, 0, 0);
            }
            due("of " + n + ", every fitting pair blocks it", x.blocking(0), n * n);
        }
    }

    private static void noPlaceTwice() {
        StablePairs x = new StablePairs(5);
        for (int who = 0; who < 5; who++) {
            x.likeAll(0, who, 0, 0);
            x.likeAll(1, who, 0, 0);
        }
        for (int s = 0; s < 5; s++) {
            for (int t = s + 1; t < 5; t++) {
                int both = WEIGHTS[s] + WEIGHTS[t];
                due("place 0 with " + s + " and " + t, x.blocking(both), -1);
                due("place 4 with " + s + " and " + t, x.blocking(5 * both), -1);
            }
        }
        due("one place with all", x.blocking(1555), -1);
    }

    private static void noPairThatDoesNotFit() {
        StablePairs x = Examples.diagonal();
        for (int s = 0; s < 5; s++) {
            for (int p = 0; p < 5; p++) {
                int want = s == p ? 4 : -1;
                due("(" + s + ", " + p + ") alone", x.blocking((p + 1) * WEIGHTS[s]), want);
            }
        }
        x.placeLikes(2, 2, 0);
        due("one of five pairs does not fit", x.blocking(7465), -1);
    }

    private static void numberOfEachPair() {
        for (int s = 0; s < 5; s++) {
            for (int p = 0; p < 5; p++) {
                StablePairs x = new StablePairs(5);
                x.seekerLikes(s, p, 1);
                x.placeLikes(p, s, 1);
                due("(" + s + ", " + p + ") alone", x.stable(0), (p + 1) * WEIGHTS[s]);
            }
        }
    }

    private static void greatestNumber() {
        StablePairs x = Examples.diagonal();
        due("the greatest number of a full matching", x.stable(0), 7465);
        due("7775, which has one place five times", x.blocking(7775), -1);
        due("7776", x.blocking(7776), -1);
        due("7776 more than a matching", x.blocking(7465 + 7776), -1);
    }

    private static void ownPairDoesNotBlock() {
        StablePairs x = Examples.pairs("10 00", "10 00");
        due("the pair is not in it", x.blocking(0), 1);
        due("the pair is in it", x.blocking(1), 0);
    }

    private static void seekerSideOfBlocking() {
        due("in no pair", Examples.pairs("01 00", "00 10").blocking(0), 1);
        due("prefers the free place", Examples.pairs("21 00", "10 10").blocking(2), 1);
        due("prefers its own place", Examples.pairs("12 00", "10 10").blocking(2), 0);
        due("prefers the taken place", Examples.pairs("21 21", "21 11").blocking(8), 1);
        due("does not, though the place does", Examples.pairs("12 21", "21 11").blocking(8), 0);
    }

    private static void placeSideOfBlocking() {
        due("in no pair", Examples.pairs("00 10", "01 00").blocking(0), 1);
        due("prefers the free seeker", Examples.pairs("10 10", "21 00").blocking(6), 1);
        due("prefers its own seeker", Examples.pairs("10 10", "12 00").blocking(6), 0);
        due("prefers the taken seeker", Examples.pairs("21 11", "21 21").blocking(8), 1);
        due("does not, though the seeker does", Examples.pairs("21 21", "12 11").blocking(8), 0);
    }

    private static void onlyFittingPairsBlock() {
        due("only the seeker likes", Examples.pairs("90 00", "00 00").blocking(0), 0);
        due("only the place likes", Examples.pairs("00 00", "90 00").blocking(0), 0);
        due("a seeker's first choice in vain", Examples.pairs("91 00", "00 10").blocking(2), 0);
        due("a place's first choice in vain", Examples.pairs("00 10", "91 00").blocking(6), 0);
    }

    private static void thereAlwaysIsOne() {
        for (int n = 2; n <= 5; n++) {
            StablePairs x = new StablePairs(n);
            due("nobody of " + n + " fits", x.stables(), 1);
            for (int who = 0; who < n; who++) {
                x.likeAll(0, who, 0, 0);
                due("only seekers like", x.stables(), 1);
            }
            for (int who = 0; who < n; who++) {
                x.likeAll(1, who, 0, 0);
                due("all are liked alike", x.stables(), 1);
            }
        }
    }

    /** All alike, seeker k is with place k, and both are k-th for the other: 0 up to n - 1. */
    private static void leastAndGreatestRank() {
        int[] want = {2, 6, 12, 20};
        for (int n = 2; n <= 5; n++) {
            StablePairs x = new StablePairs(n);
            for (int who = 0; who < n; who++) {
                x.likeAll(0, who, 0, 0);
                x.likeAll(1, who, 0, 0);
            }
            due("all alike of " + n, x.leastCost(), want[n - 2]);
        }
        due("the only pair there is", Examples.pairs("10 00", "10 00").leastCost(), 0);
    }

    private static void ranksOfFittingOnly() {
        due("a place that does not like the seeker", Examples.pairs("19 00", "10 00").leastCost(), 0);
        due("a seeker that does not like the place", Examples.pairs("10 00", "19 00").leastCost(), 0);
        due("a fitting place that it cannot get", Examples.pairs("19 01", "10 12").leastCost(), 1);
    }

    private static void nobodyWithoutPairCosts() {
        due("nobody is in a pair", new StablePairs(5).leastCost(), 0);
        due("a seeker and a place are left over", Examples.leftOver().leastCost(), 0);
    }

    private static void noQuestionChangesAnything() {
        String set = "2100 1200 0021 0012 / 1200 2100 0012 0021";
        for (Consumer<StablePairs> question : questions()) {
            StablePairs x = Examples.twiceCrossed();
            question.accept(x);
            question.accept(x);
            int[] told = {x.size(), x.stables(), x.stable(3), x.fairest(), x.better(1, 2)};
            int[] want = {4, 4, 985, 800, 985};
            for (int k = 0; k < want.length; k++) {
                due("afterwards, answer " + k, told[k], want[k]);
            }
            answers.holds("the likings stay", Examples.takeLikings(x).equals(set));
        }
    }

    private static List<Consumer<StablePairs>> questions() {
        List<Consumer<StablePairs>> questions = new ArrayList<>();
        questions.add(StablePairs::size);
        questions.add(StablePairs::stables);
        questions.add(StablePairs::placed);
        questions.add(StablePairs::leastCost);
        questions.add(StablePairs::fairest);
        for (int k : new int[] {MIN, -1, 0, 1, 3, 4, 800, 805, 7775, MAX}) {
            questions.add(x -> x.stable(k));
            questions.add(x -> x.blocking(k));
            questions.add(x -> x.bestFor(k));
            questions.add(x -> x.worstFor(k));
            for (int m : new int[] {MIN, -1, 0, 3, 4, MAX}) {
                questions.add(x -> x.fitting(k, m));
                questions.add(x -> x.together(k, m));
                questions.add(x -> x.better(k, m));
            }
        }
        return questions;
    }

    private static void nothingHasChanged(StablePairs x) {
        due("stables() afterwards", x.stables(), 2);
        due("stable(0) afterwards", x.stable(0), 116);
        due("stable(1) afterwards", x.stable(1), 121);
        due("fairest() afterwards", x.fairest(), 121);
        due("size() afterwards", x.size(), 3);
        String set = "312 231 213 / 231 321 213";
        answers.holds("the likings stay", Examples.takeLikings(x).equals(set));
    }

    private static void refusedSeekerLikes() {
        StablePairs x = Examples.crossedWithThird();
        for (int bad : new int[] {MIN, -1, 3, 4, 5, MAX}) {
            for (int k = 0; k < 3; k++) {
                due("seeker " + bad, x.seekerLikes(bad, k, 9), -1);
                due("place " + bad, x.seekerLikes(k, bad, 9), -2);
            }
        }
        for (int bad : new int[] {MIN, -1, 10, MAX}) {
            due("value " + bad, x.seekerLikes(1, 2, bad), -3);
        }
        nothingHasChanged(x);
    }

    private static void refusedPlaceLikes() {
        StablePairs x = Examples.crossedWithThird();
        for (int bad : new int[] {MIN, -1, 3, 4, 5, MAX}) {
            for (int k = 0; k < 3; k++) {
                due("place " + bad, x.placeLikes(bad, k, 9), -1);
                due("seeker " + bad, x.placeLikes(k, bad, 9), -2);
            }
        }
        for (int bad : new int[] {MIN, -1, 10, MAX}) {
            due("value " + bad, x.placeLikes(1, 2, bad), -3);
        }
        nothingHasChanged(x);
    }

    private static void refusedLikeAll() {
        StablePairs x = Examples.crossedWithThird();
        for (int bad : new int[] {MIN, -1, 9, MAX}) {
            for (int k = 0; k < 3; k++) {
                due("side " + bad, x.likeAll(bad, k, 4, 1), -1);
                due("seeker " + bad, x.likeAll(0, bad, 4, 1), -2);
                due("place " + bad, x.likeAll(1, bad, 4, 1), -2);
                due("seeker's start " + bad, x.likeAll(0, k, bad, 1), -3);
                due("place's start " + bad, x.likeAll(1, k, bad, 1), -3);
                due("seeker's step " + bad, x.likeAll(0, k, 4, bad), -3);
                due("place's step " + bad, x.likeAll(1, k, 4, bad), -3);
            }
        }
        due("side 2", x.likeAll(2, 0, 4, 1), -1);
        due("seeker 3", x.likeAll(0, 3, 4, 1), -2);
        due("place 3", x.likeAll(1, 3, 4, 1), -2);
        nothingHasChanged(x);
    }

    private static void orderInSeekerLikes() {
        StablePairs x = new StablePairs(2);
        due("all three are wrong", x.seekerLikes(2, 2, 10), -1);
        due("seeker and place are wrong", x.seekerLikes(2, 2, 9), -1);
        due("seeker and value are wrong", x.seekerLikes(2, 1, 10), -1);
        due("place and value are wrong", x.seekerLikes(1, 2, 10), -2);
        due("value is wrong", x.seekerLikes(1, 1, 10), -3);
    }

    private static void orderInPlaceLikes() {
        StablePairs x = new StablePairs(2);
        due("all three are wrong", x.placeLikes(-1, -1, -1), -1);
        due("place and seeker are wrong", x.placeLikes(-1, -1, 0), -1);
        due("place and value are wrong", x.placeLikes(-1, 0, -1), -1);
        due("seeker and value are wrong", x.placeLikes(0, -1, -1), -2);
        due("value is wrong", x.placeLikes(0, 0, -1), -3);
    }

    private static void orderInLikeAll() {
        StablePairs x = new StablePairs(2);
        due("all are wrong", x.likeAll(2, 2, 9, 9), -1);
        due("side and who are wrong", x.likeAll(2, 2, 8, 8), -1);
        due("side and start are wrong", x.likeAll(2, 1, 9, 8), -1);
        due("side and step are wrong", x.likeAll(2, 1, 8, 9), -1);
        due("who and start are wrong", x.likeAll(1, 2, 9, 8), -2);
        due("who and step are wrong", x.likeAll(0, 2, 8, 9), -2);
        due("start and step are wrong", x.likeAll(1, 1, 9, 9), -3);
    }

    private static void orderInBestAndWorst() {
        StablePairs x = new StablePairs(2);
        for (int bad : new int[] {MIN, -1, 2, MAX}) {
            due("bestFor " + bad + ", in no pair either", x.bestFor(bad), -1);
            due("worstFor " + bad + ", in no pair either", x.worstFor(bad), -1);
        }
    }

    private static void callsUpToTheLast() {
        StablePairs x = new StablePairs(2);
        x.placeLikes(0, 0, 1);
        for (int call = 2; call < 512; call++) {
            due("call " + call, x.seekerLikes(0, 0, call % 10), call == 2 ? 0 : (call - 1) % 10);
        }
        due("call 512: seeker 0 likes place 0 with 1", x.stable(0), 1);
    }
}
