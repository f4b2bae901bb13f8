/** One method for each promise; every answer that is due was worked out by hand. */
public final class PromisesTest {
    private static final int MIN = Examples.MIN;
    private static final int MAX = Examples.MAX;
    private static final Answers answers = new Answers();

    public static void main(String[] args) {
        promise1NewObject();
        promise2Size();
        promise3SeekerLikes();
        promise4PlaceLikes();
        promise5LikeAll();
        promise6Fitting();
        promise7Stables();
        promise8Stable();
        promise9Blocking();
        promise10BestFor();
        promise11WorstFor();
        promise12Together();
        promise13Placed();
        promise14LeastCost();
        promise15Fairest();
        promise16Better();
        answers.end();
    }

    private static void due(String call, long got, long want) {
        answers.due(call, got, want);
    }

    private static void promise1NewObject() {
        int[] sizes = {MIN, -1, 0, 1, 2, 3, 4, 5, 6, 7, MAX};
        int[] held = {2, 2, 2, 2, 2, 3, 4, 5, 5, 5, 5};
        for (int k = 0; k < sizes.length; k++) {
            StablePairs x = new StablePairs(sizes[k]);
            due("1: size() of new " + sizes[k], x.size(), held[k]);
            allLikingsAreZero(x, held[k]);
            due("1: a seeker of number n", x.seekerLikes(held[k], 0, 1), -1);
            due("1: a place of number n", x.placeLikes(held[k], 0, 1), -1);
        }
    }

    private static void allLikingsAreZero(StablePairs x, int n) {
        for (int a = 0; a < n; a++) {
            for (int b = 0; b < n; b++) {
                due("1: a seeker's first liking", x.seekerLikes(a, b, 9), 0);
                due("1: a place's first liking", x.placeLikes(a, b, 9), 0);
            }
        }
    }

    private static void promise2Size() {
        StablePairs x = new StablePairs(3);
        due("2: size()", x.size(), 3);
        x.likeAll(0, 0, 1, 1);
        x.stables();
        due("2: size() later", x.size(), 3);
    }

    private static void promise3SeekerLikes() {
        StablePairs x = new StablePairs(3);
        due("3: first", x.seekerLikes(1, 2, 7), 0);
        due("3: greatest", x.seekerLikes(1, 2, 9), 7);
        due("3: back to 0", x.seekerLikes(1, 2, 0), 9);
        due("3: again", x.seekerLikes(1, 2, 4), 0);
        due("3: the turned pair is another", x.seekerLikes(2, 1, 1), 0);
        due("3: the place's liking is another", x.placeLikes(2, 1, 1), 0);
        for (int bad : new int[] {MIN, -1, 3, 5, MAX}) {
            due("3: seeker " + bad, x.seekerLikes(bad, 2, 5), -1);
            due("3: seeker comes first " + bad, x.seekerLikes(bad, bad, -1), -1);
            due("3: place " + bad, x.seekerLikes(1, bad, 5), -2);
            due("3: place comes before value " + bad, x.seekerLikes(1, bad, 10), -2);
        }
        for (int bad : new int[] {MIN, -1, 10, MAX}) {
            due("3: value " + bad, x.seekerLikes(1, 2, bad), -3);
        }
        due("3: refused calls change nothing", x.seekerLikes(1, 2, 4), 4);
    }

    private static void promise4PlaceLikes() {
        StablePairs x = new StablePairs(3);
        due("4: first", x.placeLikes(1, 2, 7), 0);
        due("4: greatest", x.placeLikes(1, 2, 9), 7);
        due("4: back to 0", x.placeLikes(1, 2, 0), 9);
        due("4: again", x.placeLikes(1, 2, 4), 0);
        due("4: the turned pair is another", x.placeLikes(2, 1, 1), 0);
        due("4: the seeker's liking is another", x.seekerLikes(2, 1, 1), 0);
        for (int bad : new int[] {MIN, -1, 3, 5, MAX}) {
            due("4: place " + bad, x.placeLikes(bad, 2, 5), -1);
            due("4: place comes first " + bad, x.placeLikes(bad, bad, -1), -1);
            due("4: seeker " + bad, x.placeLikes(1, bad, 5), -2);
            due("4: seeker comes before value " + bad, x.placeLikes(1, bad, 10), -2);
        }
        for (int bad : new int[] {MIN, -1, 10, MAX}) {
            due("4: value " + bad, x.placeLikes(1, 2, bad), -3);
        }
        due("4: refused calls change nothing", x.placeLikes(1, 2, 4), 4);
    }

    private static void promise5LikeAll() {
        StablePairs x = new StablePairs(5);
        due("5: seeker 1", x.likeAll(0, 1, 7, 4), 0);
        int[] seekerWant = {8, 3, 7, 2, 6};
        due("5: place 4", x.likeAll(1, 4, 8, 8), 0);
        int[] placeWant = {9, 8, 7, 6, 5};
        refusedLikeAll(x);
        for (int k = 0; k < 5; k++) {
            due("5: seeker 1 likes " + k, x.seekerLikes(1, k, 0), seekerWant[k]);
            due("5: place 4 likes " + k, x.placeLikes(4, k, 0), placeWant[k]);
            due("5: seeker 4 is not touched " + k, x.seekerLikes(4, k, 0), 0);
            due("5: place 1 is not touched " + k, x.placeLikes(1, k, 0), 0);
        }
        due("5: least start and step", x.likeAll(0, 0, 0, 0), 0);
        for (int k = 0; k < 5; k++) {
            due("5: seeker 0 likes " + k, x.seekerLikes(0, k, 0), 1);
        }
    }

    private static void refusedLikeAll(StablePairs x) {
        for (int bad : new int[] {MIN, -1, 2, 9, MAX}) {
            due("5: side " + bad, x.likeAll(bad, 1, 0, 0), -1);
            due("5: side comes first " + bad, x.likeAll(bad, -1, 9, 9), -1);
        }
        for (int bad : new int[] {MIN, -1, 5, 9, MAX}) {
            due("5: seeker " + bad, x.likeAll(0, bad, 0, 0), -2);
            due("5: place " + bad, x.likeAll(1, bad, 0, 0), -2);
            due("5: who comes before start " + bad, x.likeAll(1, bad, 9, 9), -2);
        }
        for (int bad : new int[] {MIN, -1, 9, MAX}) {
            due("5: start " + bad, x.likeAll(0, 1, bad, 0), -3);
            due("5: step " + bad, x.likeAll(1, 4, 0, bad), -3);
        }
    }

    private static void promise6Fitting() {
        StablePairs x = new StablePairs(3);
        due("6: neither", x.fitting(1, 2), 0);
        x.seekerLikes(1, 2, 1);
        due("6: the seeker alone", x.fitting(1, 2), 0);
        x.placeLikes(2, 1, 1);
        due("6: both", x.fitting(1, 2), 1);
        due("6: the turned pair", x.fitting(2, 1), 0);
        x.seekerLikes(1, 2, 0);
        due("6: the place alone", x.fitting(1, 2), 0);
        for (int bad : new int[] {MIN, -1, 3, MAX}) {
            due("6: seeker " + bad, x.fitting(bad, 0), -1);
            due("6: place " + bad, x.fitting(0, bad), -1);
        }
    }

    private static void promise7Stables() {
        due("7: nobody fits", new StablePairs(5).stables(), 1);
        due("7: crossed", Examples.crossed().stables(), 2);
        due("7: twice crossed", Examples.twiceCrossed().stables(), 4);
        due("7: three in a ring", Examples.pairs("321 132 213", "132 213 321").stables(), 3);
        due("7: left over", Examples.leftOver().stables(), 1);
        due("7: all alike", Examples.pairs("11 11", "11 11").stables(), 1);
        StablePairs x = Examples.crossed();
        x.seekerLikes(0, 0, 0);
        due("7: after a change", x.stables(), 1);
    }

    private static void promise8Stable() {
        due("8: nobody fits", new StablePairs(5).stable(0), 0);
        due("8: all alike, the lesser numbers first", Examples.pairs("11 11", "11 11").stable(0), 13);
        due("8: a seeker's tie goes to the lesser place", Examples.pairs("77 00", "30 30").stable(0), 1);
        due("8: a place's tie goes to the lesser seeker", Examples.pairs("50 50", "33 00").stable(0), 1);
        due("8: left over", Examples.leftOver().stable(0), 6);
        StablePairs x = Examples.twiceCrossed();
        int[] want = {800, 805, 980, 985};
        for (int i = 0; i < 4; i++) {
            due("8: stable(" + i + ")", x.stable(i), want[i]);
        }
        for (int bad : new int[] {MIN, -1, 4, 5, MAX}) {
            due("8: stable(" + bad + ")", x.stable(bad), -1);
        }
        due("8: five pairs", Examples.diagonal().stable(0), 1 + 2 * 6 + 3 * 36 + 4 * 216 + 5 * 1296);
    }

    private static void promise9Blocking() {
        StablePairs x = Examples.crossed();
        int[] numbers = {0, 1, 2, 6, 12, 8, 13};
        int[] want = {4, 2, 2, 2, 2, 0, 0};
        for (int k = 0; k < numbers.length; k++) {
            due("9: blocking(" + numbers[k] + ")", x.blocking(numbers[k]), want[k]);
        }
        // 3 and 18 name place 2, 7 and 14 one place twice; from 36 on there is a third seeker.
        // The low digits of -36 are all 0.
        for (int bad : new int[] {MIN, -7776, -36, -8, -1, 3, 5, 18, 7, 14, 36, 49, 7775, 7776, 7784, MAX}) {
            due("9: blocking(" + bad + ")", x.blocking(bad), -1);
        }
        StablePairs alike = Examples.pairs("11 11", "11 11");
        due("9: of equals, the lesser number blocks", alike.blocking(8), 1);
        StablePairs few = Examples.leftOver();
        due("9: nobody paired", few.blocking(0), 2);
        due("9: the place wants another", few.blocking(1), 1);
        due("9: a pair that does not fit", few.blocking(2), -1);
        due("9: five pairs that do not fit", new StablePairs(5).blocking(7465), -1);
        due("9: five pairs that fit", Examples.diagonal().blocking(7465), 0);
        due("9: the fifth pair is missing", Examples.diagonal().blocking(985), 1);
    }

    private static void promise10BestFor() {
        StablePairs x = Examples.crossed();
        due("10: seeker 0", x.bestFor(0), 0);
        due("10: seeker 1", x.bestFor(1), 1);
        StablePairs turned = Examples.pairs("12 21", "21 12");
        due("10: the greater number", turned.bestFor(0), 1);
        due("10: the lesser number", turned.bestFor(1), 0);
        due("10: likes another more, but in vain", Examples.pairs("21 21", "21 21").bestFor(1), 1);
        due("10: in no pair", Examples.leftOver().bestFor(0), -2);
        due("10: its only place", Examples.leftOver().bestFor(1), 0);
        for (int bad : new int[] {MIN, -1, 2, MAX}) {
            due("10: seeker " + bad, x.bestFor(bad), -1);
        }
    }

    private static void promise11WorstFor() {
        StablePairs x = Examples.crossed();
        due("11: seeker 0", x.worstFor(0), 1);
        due("11: seeker 1", x.worstFor(1), 0);
        StablePairs turned = Examples.pairs("12 21", "21 12");
        due("11: the lesser number", turned.worstFor(0), 0);
        due("11: the greater number", turned.worstFor(1), 1);
        due("11: three in a ring", Examples.pairs("321 132 213", "132 213 321").worstFor(0), 2);
        due("11: in no pair", Examples.leftOver().worstFor(0), -2);
        due("11: its only place", Examples.leftOver().worstFor(1), 0);
        for (int bad : new int[] {MIN, -1, 2, MAX}) {
            due("11: seeker " + bad, x.worstFor(bad), -1);
        }
    }

    private static void promise12Together() {
        StablePairs x = Examples.twiceCrossed();
        due("12: (0, 0)", x.together(0, 0), 2);
        due("12: (2, 3)", x.together(2, 3), 2);
        due("12: not fitting", x.together(0, 3), 0);
        StablePairs third = Examples.crossedWithThird();
        due("12: in all", third.together(2, 2), 2);
        due("12: in one", third.together(0, 1), 1);
        due("12: fitting, but in none", third.together(0, 2), 0);
        for (int bad : new int[] {MIN, -1, 4, MAX}) {
            due("12: seeker " + bad, x.together(bad, 0), -1);
            due("12: place " + bad, x.together(0, bad), -1);
        }
    }

    private static void promise13Placed() {
        due("13: nobody fits", new StablePairs(5).placed(), 0);
        due("13: left over", Examples.leftOver().placed(), 1);
        due("13: all, though in changing pairs", Examples.twiceCrossed().placed(), 4);
        due("13: some of three", Examples.pairs("210 120 000", "120 210 000").placed(), 2);
    }

    private static void promise14LeastCost() {
        due("14: nobody fits", new StablePairs(5).leastCost(), 0);
        due("14: crossed", Examples.crossed().leastCost(), 2);
        due("14: twice crossed", Examples.twiceCrossed().leastCost(), 4);
        due("14: the second is cheaper", Examples.crossedWithThird().leastCost(), 2);
        due("14: of equals, the lesser number ranks first", Examples.pairs("11 11", "11 11").leastCost(), 2);
        due("14: left over", Examples.leftOver().leastCost(), 0);
        StablePairs x = Examples.pairs("12 00", "10 00");
        due("14: a place that does not fit has no rank", x.leastCost(), 0);
        x.placeLikes(1, 0, 1);
        due("14: first choice", x.leastCost(), 0);
    }

    private static void promise15Fairest() {
        due("15: nobody fits", new StablePairs(5).fairest(), 0);
        due("15: of the same cost, the least number", Examples.crossed().fairest(), 8);
        StablePairs x = Examples.crossedWithThird();
        due("15: the second is cheaper", x.fairest(), 121);
        x.placeLikes(2, 0, 0);
        due("15: a place that no longer fits costs nothing", x.fairest(), 116);
        due("15: left over", Examples.leftOver().fairest(), 6);
    }

    private static void promise16Better() {
        StablePairs x = Examples.twiceCrossed();
        int[] numbers = {800, 805, 980, 985};
        for (int i = 0; i < 4; i++) {
            for (int j = 0; j < 4; j++) {
                due("16: better(" + i + ", " + j + ")", x.better(i, j), numbers[i | j]);
            }
        }
        for (int bad : new int[] {MIN, -1, 4, MAX}) {
            due("16: first " + bad, x.better(bad, 0), -1);
            due("16: second " + bad, x.better(0, bad), -1);
            due("16: both " + bad, x.better(bad, bad), -1);
        }
        due("16: nobody fits", new StablePairs(5).better(0, 0), 0);
        due("16: left over", Examples.leftOver().better(0, 0), 6);
        StablePairs turned = Examples.pairs("12 21", "21 12");
        due("16: the greater place is liked more", turned.better(0, 1), 8);
    }
}
