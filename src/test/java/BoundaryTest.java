/** Each boundary case that the document names in a promise, in a case of its own. */
public final class BoundaryTest {
    private static final int MIN = Examples.MIN;
    private static final int MAX = Examples.MAX;
    private static final int[] TEN = {310, 315, 490, 495, 585, 710, 800, 805, 980, 985};
    private static final int[] SIXTEEN = {
        2045, 2105, 2120, 2470, 2475, 2535, 3305, 3730, 3735, 4205, 4265, 4280, 5525, 5540, 6970, 6975,
    };
    private static final Answers answers = new Answers();

    public static void main(String[] args) {
        likings();
        matchings();
        seekers();
        wholes();
        answers.end();
    }

    private static void likings() {
        test("1: below 2 becomes 2", BoundaryTest::sizeBelowTwo);
        test("1: above 5 becomes 5", BoundaryTest::sizeAboveFive);
        test("1: size is n", BoundaryTest::sizeWithinBounds);
        test("2: n, at any time", BoundaryTest::sizeAtAnyTime);
        test("3: -1 if seeker is not good", BoundaryTest::seekerLikesSeeker);
        test("3: -2 if place is not good", BoundaryTest::seekerLikesPlace);
        test("3: -3 if value is not in 0 .. 9", BoundaryTest::seekerLikesValue);
        test("3: the liking before", BoundaryTest::seekerLikesBefore);
        test("4: -1 if place is not good", BoundaryTest::placeLikesPlace);
        test("4: -2 if seeker is not good", BoundaryTest::placeLikesSeeker);
        test("4: -3 if value is not in 0 .. 9", BoundaryTest::placeLikesValue);
        test("4: the liking before", BoundaryTest::placeLikesBefore);
        test("5: modulo 9 (remainder in 0 .. 8)", BoundaryTest::likeAllWrapsAround);
        test("5: for k = 0 .. n-1", BoundaryTest::likeAllReachesAll);
        test("5: side 0 or side 1", BoundaryTest::likeAllOneSide);
        test("5: -1 if side is not 0 or 1", BoundaryTest::likeAllSide);
        test("5: -2 if who is not good", BoundaryTest::likeAllWho);
        test("5: -3 if start is not in 0 .. 8", BoundaryTest::likeAllStart);
        test("5: -3 if step is not in 0 .. 8", BoundaryTest::likeAllStep);
        test("6: 1 if fitting, otherwise 0", BoundaryTest::fittingOrNot);
        test("6: -1 if seeker is not good", BoundaryTest::fittingSeeker);
        test("6: -1 if place is not good", BoundaryTest::fittingPlace);
    }

    private static void matchings() {
        test("7: one, when nobody fits", BoundaryTest::stablesOfNobody);
        test("7: as many as can be", BoundaryTest::mostStables);
        test("8: 0 for the first", BoundaryTest::firstStable);
        test("8: rising order of numbers, to the last", BoundaryTest::risingOrder);
        test("8: -1 if i is too small", BoundaryTest::stableTooSmall);
        test("8: -1 if i is too large", BoundaryTest::stableTooLarge);
        test("9: none blocks a stable one", BoundaryTest::nothingBlocksStable);
        test("9: -1 below 0", BoundaryTest::blockingBelowZero);
        test("9: -1 from 6^n on", BoundaryTest::blockingTooLarge);
        test("9: -1 for a place that is not there", BoundaryTest::blockingWithoutPlace);
        test("9: -1 for a place taken twice", BoundaryTest::blockingPlaceTwice);
        test("9: -1 for a pair that does not fit", BoundaryTest::blockingWithoutFit);
    }

    private static void seekers() {
        test("10: preferred to all others", BoundaryTest::bestOfMany);
        test("10: of the same liking the lesser place", BoundaryTest::bestOfTied);
        test("10: -1 if seeker is not good", BoundaryTest::bestForSeeker);
        test("10: -2 if in no pair of a stable matching", BoundaryTest::bestForNobody);
        test("11: all others are preferred", BoundaryTest::worstOfMany);
        test("11: of the same liking the greater place", BoundaryTest::worstOfTied);
        test("11: -1 if seeker is not good", BoundaryTest::worstForSeeker);
        test("11: -2 if in no pair of a stable matching", BoundaryTest::worstForNobody);
        test("12: in none, one, some and all", BoundaryTest::togetherNoneToAll);
        test("12: -1 if seeker is not good", BoundaryTest::togetherSeeker);
        test("12: -1 if place is not good", BoundaryTest::togetherPlace);
    }

    private static void wholes() {
        test("13: none is placed", BoundaryTest::nobodyPlaced);
        test("13: all are placed", BoundaryTest::allPlaced);
        test("13: a pair of every stable matching", BoundaryTest::placedInEvery);
        test("14: the least cost of none and of one", BoundaryTest::costOfFew);
        test("14: the least of many", BoundaryTest::costOfMany);
        test("15: the least number of the same cost", BoundaryTest::fairestOfSameCost);
        test("15: the least cost before the least number", BoundaryTest::fairestIsNotFirst);
        test("15: nobody is in a pair", BoundaryTest::fairestOfNobody);
        test("16: the one it prefers", BoundaryTest::betterOfTwo);
        test("16: of the same liking the lesser place", BoundaryTest::betterOfTied);
        test("16: or with its only place", BoundaryTest::betterWithOnlyPlace);
        test("16: or with none", BoundaryTest::betterWithNone);
        test("16: a matching and itself", BoundaryTest::betterOfOne);
        test("16: that is a stable matching again", BoundaryTest::betterIsStable);
        test("16: -1 if there is none at i", BoundaryTest::betterFirstPosition);
        test("16: -1 if there is none at j", BoundaryTest::betterSecondPosition);
    }

    private static void test(String sentence, Runnable calls) {
        answers.test(sentence, calls);
    }

    private static void due(String call, long got, long want) {
        answers.due(call, got, want);
    }

    /** Not its size alone: the object has as many seekers and places as one of the right size. */
    private static void hasSize(int size, int n) {
        StablePairs x = new StablePairs(size);
        due("size() of new " + size, x.size(), n);
        due("the last seeker of new " + size, x.seekerLikes(n - 1, n - 1, 1), 0);
        due("the last place of new " + size, x.placeLikes(n - 1, n - 1, 1), 0);
        due("one seeker more of new " + size, x.seekerLikes(n, 0, 1), -1);
        due("one place more of new " + size, x.seekerLikes(0, n, 1), -2);
        int[] numbers = {12, 108, 864, 6480};
        due("the last pair of new " + size, x.stable(0), numbers[n - 2]);
    }

    private static void sizeBelowTwo() {
        for (int size : new int[] {1, 0, -1, -2, -5, MIN + 1, MIN}) {
            hasSize(size, 2);
        }
    }

    private static void sizeAboveFive() {
        for (int size : new int[] {6, 7, 50, 256, 258, 65538, MAX - 1, MAX}) {
            hasSize(size, 5);
        }
    }

    private static void sizeWithinBounds() {
        for (int size = 2; size <= 5; size++) {
            hasSize(size, size);
        }
    }

    private static void sizeAtAnyTime() {
        for (int n = 2; n <= 5; n++) {
            StablePairs x = new StablePairs(n);
            due("new", x.size(), n);
            x.seekerLikes(n, n, 10);
            x.likeAll(2, n, 9, 9);
            due("after refused calls", x.size(), n);
            x.seekerLikes(n - 1, n - 1, 9);
            x.likeAll(1, n - 1, 8, 8);
            due("after changes", x.size(), n);
            x.stables();
            x.better(0, 0);
            due("after questions", x.size(), n);
        }
    }

    private static void seekerLikesSeeker() {
        for (int n = 2; n <= 5; n++) {
            StablePairs x = new StablePairs(n);
            for (int bad : new int[] {MIN, -858993459, -1, n, n + 1, 256, 858993460, MAX}) {
                due("seeker " + bad + " of " + n, x.seekerLikes(bad, 1, 5), -1);
            }
            due("seeker 0 of " + n, x.seekerLikes(0, 1, 5), 0);
            due("the last seeker of " + n, x.seekerLikes(n - 1, 1, 5), 0);
        }
    }

    private static void seekerLikesPlace() {
        for (int n = 2; n <= 5; n++) {
            StablePairs x = new StablePairs(n);
            for (int bad : new int[] {MIN, -1, n, n + 1, 5, 256, MAX}) {
                due("place " + bad + " of " + n, x.seekerLikes(1, bad, 5), -2);
            }
            due("place 0 of " + n, x.seekerLikes(1, 0, 5), 0);
            due("the last place of " + n, x.seekerLikes(1, n - 1, 5), 0);
        }
    }

    private static void seekerLikesValue() {
        StablePairs x = new StablePairs(2);
        for (int bad : new int[] {MIN, MIN + 9, -10, -1, 10, 11, 256, MAX}) {
            due("value " + bad, x.seekerLikes(1, 0, bad), -3);
        }
        due("value 0", x.seekerLikes(1, 0, 0), 0);
        due("value 9", x.seekerLikes(1, 0, 9), 0);
    }

    private static void seekerLikesBefore() {
        StablePairs x = new StablePairs(2);
        due("at first", x.seekerLikes(1, 0, 9), 0);
        due("the same again", x.seekerLikes(1, 0, 9), 9);
        due("to 0", x.seekerLikes(1, 0, 0), 9);
        due("from 0 to 0", x.seekerLikes(1, 0, 0), 0);
        x.seekerLikes(1, 0, 3);
        x.seekerLikes(1, 0, 10);
        due("a refused value was never there", x.seekerLikes(1, 0, 4), 3);
        x.likeAll(0, 1, 6, 0);
        due("what likeAll has set", x.seekerLikes(1, 0, 4), 7);
    }

    private static void placeLikesPlace() {
        for (int n = 2; n <= 5; n++) {
            StablePairs x = new StablePairs(n);
            for (int bad : new int[] {MIN, -858993459, -1, n, n + 1, 256, 858993460, MAX}) {
                due("place " + bad + " of " + n, x.placeLikes(bad, 1, 5), -1);
            }
            due("place 0 of " + n, x.placeLikes(0, 1, 5), 0);
            due("the last place of " + n, x.placeLikes(n - 1, 1, 5), 0);
        }
    }

    private static void placeLikesSeeker() {
        for (int n = 2; n <= 5; n++) {
            StablePairs x = new StablePairs(n);
            for (int bad : new int[] {MIN, -1, n, n + 1, 5, 256, MAX}) {
                due("seeker " + bad + " of " + n, x.placeLikes(1, bad, 5), -2);
            }
            due("seeker 0 of " + n, x.placeLikes(1, 0, 5), 0);
            due("the last seeker of " + n, x.placeLikes(1, n - 1, 5), 0);
        }
    }

    private static void placeLikesValue() {
        StablePairs x = new StablePairs(2);
        for (int bad : new int[] {MIN, MIN + 9, -10, -1, 10, 11, 256, MAX}) {
            due("value " + bad, x.placeLikes(1, 0, bad), -3);
        }
        due("value 0", x.placeLikes(1, 0, 0), 0);
        due("value 9", x.placeLikes(1, 0, 9), 0);
    }

    private static void placeLikesBefore() {
        StablePairs x = new StablePairs(2);
        due("at first", x.placeLikes(1, 0, 9), 0);
        due("the same again", x.placeLikes(1, 0, 9), 9);
        due("to 0", x.placeLikes(1, 0, 0), 9);
        due("from 0 to 0", x.placeLikes(1, 0, 0), 0);
        x.placeLikes(1, 0, 3);
        x.placeLikes(1, 0, 10);
        due("a refused value was never there", x.placeLikes(1, 0, 4), 3);
        x.likeAll(1, 1, 6, 0);
        due("what likeAll has set", x.placeLikes(1, 0, 4), 7);
    }

    /** After likeAll, the likings of seeker 2 and of place 3 out of five are the digits of want. */
    private static void likesAll(int start, int step, String want) {
        StablePairs x = new StablePairs(5);
        due("seeker, start " + start + ", step " + step, x.likeAll(0, 2, start, step), 0);
        due("place, start " + start + ", step " + step, x.likeAll(1, 3, start, step), 0);
        for (int k = 0; k < 5; k++) {
            String call = "start " + start + ", step " + step + ", for " + k;
            due("seeker, " + call, x.seekerLikes(2, k, 0), want.charAt(k) - '0');
            due("place, " + call, x.placeLikes(3, k, 0), want.charAt(k) - '0');
        }
    }

    private static void likeAllWrapsAround() {
        likesAll(0, 0, "11111");
        likesAll(8, 0, "99999");
        likesAll(4, 1, "56789");
        likesAll(5, 1, "67891");
        likesAll(8, 1, "91234");
        likesAll(0, 8, "19876");
        likesAll(1, 8, "21987");
        likesAll(8, 8, "98765");
        likesAll(3, 3, "47147");
        likesAll(7, 4, "83726");
        likesAll(0, 2, "13579");
        likesAll(1, 2, "24681");
    }

    private static void likeAllReachesAll() {
        for (int n = 2; n <= 5; n++) {
            StablePairs x = new StablePairs(n);
            for (int who = 0; who < n; who++) {
                due("seeker " + who + " of " + n, x.likeAll(0, who, 6, 1), 0);
                due("place " + who + " of " + n, x.likeAll(1, who, 8, 8), 0);
            }
            String[] want = {"78 78 / 98 98", "789 789 789 / 987 987 987",
                "7891 7891 7891 7891 / 9876 9876 9876 9876",
                "78912 78912 78912 78912 78912 / 98765 98765 98765 98765 98765"};
            answers.holds("all likings of " + n, Examples.takeLikings(x).equals(want[n - 2]));
        }
    }

    private static void likeAllOneSide() {
        StablePairs x = Examples.crossed();
        x.likeAll(0, 1, 8, 0);
        String seekers = Examples.takeLikings(x);
        answers.holds("seeker 1 alone: " + seekers, seekers.equals("21 99 / 12 21"));
        StablePairs y = Examples.crossed();
        y.likeAll(1, 0, 8, 0);
        String places = Examples.takeLikings(y);
        answers.holds("place 0 alone: " + places, places.equals("21 12 / 99 21"));
    }

    private static void likeAllSide() {
        StablePairs x = new StablePairs(5);
        for (int bad : new int[] {MIN, -2, -1, 2, 3, 256, 257, MAX}) {
            due("side " + bad, x.likeAll(bad, 0, 0, 0), -1);
        }
        due("side 0", x.likeAll(0, 0, 0, 0), 0);
        due("side 1", x.likeAll(1, 0, 0, 0), 0);
    }

    private static void likeAllWho() {
        for (int n = 2; n <= 5; n++) {
            StablePairs x = new StablePairs(n);
            for (int bad : new int[] {MIN, -858993459, -1, n, n + 1, 256, 858993460, MAX}) {
                due("seeker " + bad + " of " + n, x.likeAll(0, bad, 0, 0), -2);
                due("place " + bad + " of " + n, x.likeAll(1, bad, 0, 0), -2);
            }
            due("the last seeker of " + n, x.likeAll(0, n - 1, 0, 0), 0);
            due("the last place of " + n, x.likeAll(1, n - 1, 0, 0), 0);
        }
    }

    private static void likeAllStart() {
        StablePairs x = new StablePairs(2);
        for (int bad : new int[] {MIN, -9, -1, 9, 10, 17, 256, MAX}) {
            due("start " + bad + ", seeker", x.likeAll(0, 1, bad, 3), -3);
            due("start " + bad + ", place", x.likeAll(1, 1, bad, 3), -3);
        }
        due("start 0", x.likeAll(0, 1, 0, 3), 0);
        due("start 8", x.likeAll(0, 1, 8, 3), 0);
    }

    private static void likeAllStep() {
        StablePairs x = new StablePairs(2);
        for (int bad : new int[] {MIN, -9, -1, 9, 10, 17, 256, MAX}) {
            due("step " + bad + ", seeker", x.likeAll(0, 1, 3, bad), -3);
            due("step " + bad + ", place", x.likeAll(1, 1, 3, bad), -3);
        }
        due("step 0", x.likeAll(0, 1, 3, 0), 0);
        due("step 8", x.likeAll(0, 1, 3, 8), 0);
    }

    private static void fittingOrNot() {
        StablePairs x = Examples.pairs("19 90", "09 19");
        due("0 of the place", x.fitting(0, 0), 0);
        due("9 and 1", x.fitting(0, 1), 1);
        due("9 and 9", x.fitting(1, 0), 1);
        due("0 of the seeker", x.fitting(1, 1), 0);
    }

    private static void fittingSeeker() {
        StablePairs x = Examples.crossed();
        for (int bad : new int[] {MIN, -1, 2, 3, 5, 256, 858993460, MAX}) {
            due("fitting(" + bad + ", 0)", x.fitting(bad, 0), -1);
            due("fitting(" + bad + ", 1)", x.fitting(bad, 1), -1);
            due("both are not good: " + bad, x.fitting(bad, bad), -1);
        }
        due("the last seeker", x.fitting(1, 0), 1);
    }

    private static void fittingPlace() {
        StablePairs x = Examples.crossed();
        for (int bad : new int[] {MIN, -1, 2, 3, 5, 256, 858993460, MAX}) {
            due("fitting(0, " + bad + ")", x.fitting(0, bad), -1);
            due("fitting(1, " + bad + ")", x.fitting(1, bad), -1);
        }
        due("the last place", x.fitting(0, 1), 1);
    }

    private static void stablesOfNobody() {
        for (int n = 2; n <= 5; n++) {
            due("new, of " + n, new StablePairs(n).stables(), 1);
        }
        due("only seekers like", Examples.pairs("99 99", "00 00").stables(), 1);
        due("only places like", Examples.pairs("00 00", "99 99").stables(), 1);
    }

    private static void mostStables() {
        due("of two", Examples.crossed().stables(), 2);
        due("of three", Examples.pairs("321 132 213", "132 213 321").stables(), 3);
        due("of four", Examples.tenStables().stables(), 10);
        due("of five", Examples.sixteenStables().stables(), 16);
    }

    private static void firstStable() {
        due("nobody fits", new StablePairs(2).stable(0), 0);
        due("of two", Examples.crossed().stable(0), 8);
        due("of ten", Examples.tenStables().stable(0), 310);
        due("of one", Examples.diagonal().stable(0), 7465);
    }

    private static void risingOrder() {
        StablePairs ten = Examples.tenStables();
        for (int i = 0; i < 10; i++) {
            due("of four, stable(" + i + ")", ten.stable(i), TEN[i]);
        }
        StablePairs sixteen = Examples.sixteenStables();
        for (int i = 0; i < 16; i++) {
            due("of five, stable(" + i + ")", sixteen.stable(i), SIXTEEN[i]);
        }
    }

    private static void stableTooSmall() {
        for (int bad : new int[] {MIN, MIN + 1, -16, -2, -1}) {
            due("new, stable(" + bad + ")", new StablePairs(2).stable(bad), -1);
            due("stable(" + bad + ")", Examples.sixteenStables().stable(bad), -1);
        }
    }

    private static void stableTooLarge() {
        for (int bad : new int[] {16, 17, 256, 7776, 65536, MAX - 1, MAX}) {
            due("new, stable(" + bad + ")", new StablePairs(2).stable(bad), -1);
            due("stable(" + bad + ")", Examples.sixteenStables().stable(bad), -1);
        }
        due("new, the second", new StablePairs(5).stable(1), -1);
        due("the third of two", Examples.crossed().stable(2), -1);
        due("the eleventh of ten", Examples.tenStables().stable(10), -1);
    }

    private static void nothingBlocksStable() {
        StablePairs x = Examples.sixteenStables();
        for (int number : SIXTEEN) {
            due("blocking(" + number + ")", x.blocking(number), 0);
        }
        due("nobody is in a pair", x.blocking(0), 25);
        due("nobody fits", new StablePairs(5).blocking(0), 0);
    }

    private static void blockingBelowZero() {
        for (int bad : new int[] {MIN, MIN + 1, -7776, -1296, -36, -13, -8, -6, -1}) {
            due("blocking(" + bad + ")", Examples.crossed().blocking(bad), -1);
            due("of five, blocking(" + bad + ")", Examples.diagonal().blocking(bad), -1);
        }
    }

    /** The low digits of each of these numbers are a matching. */
    private static void blockingTooLarge() {
        StablePairs two = Examples.crossed();
        for (int bad : new int[] {36, 36 + 8, 72 + 13, 216, 1296, 7776, 7776 + 8, MAX}) {
            due("of two, blocking(" + bad + ")", two.blocking(bad), -1);
        }
        StablePairs three = Examples.crossedWithThird();
        for (int bad : new int[] {216, 216 + 116, 432 + 121, 1296, 7776, 7776 + 116, MAX}) {
            due("of three, blocking(" + bad + ")", three.blocking(bad), -1);
        }
        StablePairs four = Examples.tenStables();
        for (int bad : new int[] {1296, 1296 + 310, 6480 + 985, 7776, 7776 + 310, MAX}) {
            due("of four, blocking(" + bad + ")", four.blocking(bad), -1);
        }
        StablePairs five = Examples.diagonal();
        for (int bad : new int[] {7776, 7777, 7776 + 7465, 46656, 65536 + 7465, MAX}) {
            due("of five, blocking(" + bad + ")", five.blocking(bad), -1);
        }
    }

    private static void blockingWithoutPlace() {
        StablePairs two = Examples.pairs("99 99", "99 99");
        for (int bad : new int[] {3, 4, 5, 18, 24, 30, 3 + 6, 1 + 18, 35}) {
            due("of two, blocking(" + bad + ")", two.blocking(bad), -1);
        }
        due("of three, place 3", Examples.crossedWithThird().blocking(4), -1);
        due("of three, place 4 with the last", Examples.crossedWithThird().blocking(180), -1);
        due("of four, place 4", Examples.tenStables().blocking(5), -1);
        due("of four, place 4 with the last", Examples.tenStables().blocking(1080), -1);
    }

    private static void blockingPlaceTwice() {
        due("of two, place 0", Examples.crossed().blocking(7), -1);
        due("of two, place 1", Examples.crossed().blocking(14), -1);
        due("of four, the first and the last", Examples.tenStables().blocking(217), -1);
        due("of five, the first and the last", Examples.sixteenStables().blocking(5 + 6480), -1);
        due("of five, all at the last place", Examples.sixteenStables().blocking(7775), -1);
    }

    private static void blockingWithoutFit() {
        due("nobody fits", new StablePairs(2).blocking(1), -1);
        due("only the seeker likes", Examples.pairs("90 00", "00 00").blocking(1), -1);
        due("only the place likes", Examples.pairs("00 00", "90 00").blocking(1), -1);
        due("both like", Examples.pairs("10 00", "10 00").blocking(1), 0);
        StablePairs x = Examples.crossed();
        due("two pairs that fit", x.blocking(13), 0);
        x.seekerLikes(1, 1, 0);
        due("the second fits no longer", x.blocking(13), -1);
    }

    private static void bestOfMany() {
        StablePairs ten = Examples.tenStables();
        for (int s = 0; s < 4; s++) {
            due("each has its first choice, " + s, ten.bestFor(s), s);
        }
        due("its only place", Examples.leftOver().bestFor(1), 0);
        due("likes another more, but in vain", Examples.pairs("21 21", "21 21").bestFor(1), 1);
    }

    private static void bestOfTied() {
        StablePairs x = Examples.crossedByTies();
        due("with the same liking for both", x.bestFor(0), 0);
        due("with a greater liking for place 1", x.bestFor(1), 1);
        due("turned", Examples.crossedByTiesTurned().bestFor(1), 0);
    }

    private static void bestForSeeker() {
        for (int n = 2; n <= 5; n++) {
            StablePairs x = new StablePairs(n);
            for (int bad : new int[] {MIN, -2, -1, n, n + 1, 5, 256, 858993460, MAX}) {
                due("bestFor(" + bad + ") of " + n, x.bestFor(bad), -1);
            }
        }
    }

    private static void bestForNobody() {
        due("new, the first", new StablePairs(5).bestFor(0), -2);
        due("new, the last", new StablePairs(5).bestFor(4), -2);
        due("fits, but is left over", Examples.leftOver().bestFor(0), -2);
        due("fits nobody beside two", Examples.crossedBesideNobody().bestFor(2), -2);
    }

    private static void worstOfMany() {
        StablePairs ten = Examples.tenStables();
        for (int s = 0; s < 4; s++) {
            due("each has its last choice, " + s, ten.worstFor(s), 3 - s);
        }
        due("its only place", Examples.leftOver().worstFor(1), 0);
        due("a worse place is in no stable matching", Examples.crossedWithThird().worstFor(2), 2);
    }

    private static void worstOfTied() {
        StablePairs x = Examples.crossedByTies();
        due("with the same liking for both", x.worstFor(0), 1);
        due("with a greater liking for place 1", x.worstFor(1), 0);
        due("turned", Examples.crossedByTiesTurned().worstFor(1), 1);
    }

    private static void worstForSeeker() {
        for (int n = 2; n <= 5; n++) {
            StablePairs x = new StablePairs(n);
            for (int bad : new int[] {MIN, -2, -1, n, n + 1, 5, 256, 858993460, MAX}) {
                due("worstFor(" + bad + ") of " + n, x.worstFor(bad), -1);
            }
        }
    }

    private static void worstForNobody() {
        due("new, the first", new StablePairs(5).worstFor(0), -2);
        due("new, the last", new StablePairs(5).worstFor(4), -2);
        due("fits, but is left over", Examples.leftOver().worstFor(0), -2);
        due("fits nobody beside two", Examples.crossedBesideNobody().worstFor(2), -2);
    }

    private static void togetherNoneToAll() {
        due("new", new StablePairs(5).together(4, 4), 0);
        StablePairs x = Examples.crossedWithThird();
        due("fitting, but in none", x.together(2, 0), 0);
        due("in one of two", x.together(1, 0), 1);
        due("in both", x.together(2, 2), 2);
        due("in two of four", Examples.twiceCrossed().together(3, 3), 2);
        due("not fitting", Examples.twiceCrossed().together(3, 0), 0);
        due("the last of the only one", Examples.diagonal().together(4, 4), 1);
    }

    private static void togetherSeeker() {
        StablePairs x = Examples.crossed();
        for (int bad : new int[] {MIN, -1, 2, 3, 5, 256, 858993460, MAX}) {
            due("together(" + bad + ", 0)", x.together(bad, 0), -1);
            due("together(" + bad + ", 1)", x.together(bad, 1), -1);
            due("both are not good: " + bad, x.together(bad, bad), -1);
        }
        due("the last seeker", x.together(1, 0), 1);
    }

    private static void togetherPlace() {
        StablePairs x = Examples.crossed();
        for (int bad : new int[] {MIN, -2, -1, 2, 3, 5, 256, MAX}) {
            due("together(0, " + bad + ")", x.together(0, bad), -1);
            due("together(1, " + bad + ")", x.together(1, bad), -1);
        }
        // A seeker in no pair is not together with a place of number -1.
        due("left over, place -1", Examples.leftOver().together(0, -1), -1);
        due("the last place", x.together(0, 1), 1);
    }

    private static void nobodyPlaced() {
        for (int n = 2; n <= 5; n++) {
            due("new, of " + n, new StablePairs(n).placed(), 0);
        }
        due("only seekers like", Examples.pairs("99 99", "00 00").placed(), 0);
    }

    private static void allPlaced() {
        due("of two", Examples.crossed().placed(), 2);
        due("of three", Examples.crossedWithThird().placed(), 3);
        due("of four", Examples.tenStables().placed(), 4);
        due("of five", Examples.sixteenStables().placed(), 5);
    }

    private static void placedInEvery() {
        due("one is left over", Examples.leftOver().placed(), 1);
        due("one fits nobody", Examples.crossedBesideNobody().placed(), 2);
        StablePairs x = Examples.diagonal();
        x.placeLikes(4, 4, 0);
        due("four of five", x.placed(), 4);
    }

    private static void costOfFew() {
        due("nobody is in a pair", new StablePairs(2).leastCost(), 0);
        due("one pair", Examples.pairs("10 00", "10 00").leastCost(), 0);
        due("first choices alone", Examples.diagonal().leastCost(), 0);
        due("all alike", Examples.pairs("99 99", "99 99").leastCost(), 2);
    }

    /** In the ten, whatever the pair, its two ranks sum to 3. */
    private static void costOfMany() {
        due("all cost the same", Examples.tenStables().leastCost(), 12);
        due("the second costs less", Examples.crossedWithThird().leastCost(), 2);
        StablePairs x = Examples.crossedWithThird();
        x.placeLikes(2, 0, 0);
        due("both cost the same", x.leastCost(), 2);
    }

    private static void fairestOfSameCost() {
        due("the least of two", Examples.crossed().fairest(), 8);
        due("the least of four", Examples.twiceCrossed().fairest(), 800);
        due("the least of ten", Examples.tenStables().fairest(), 310);
    }

    private static void fairestIsNotFirst() {
        StablePairs x = Examples.crossedWithThird();
        due("the first", x.stable(0), 116);
        due("the one of less cost", x.fairest(), 121);
    }

    private static void fairestOfNobody() {
        for (int n = 2; n <= 5; n++) {
            due("new, of " + n, new StablePairs(n).fairest(), 0);
        }
    }

    private static void betterOfTwo() {
        StablePairs x = Examples.crossed();
        due("better(0, 1)", x.better(0, 1), 13);
        due("better(1, 0)", x.better(1, 0), 13);
        StablePairs turned = Examples.pairs("12 21", "21 12");
        due("turned, better(0, 1)", turned.better(0, 1), 8);
        due("turned, better(1, 0)", turned.better(1, 0), 8);
        due("neither of the two", Examples.twiceCrossed().better(1, 2), 985);
        due("the first and the last", Examples.tenStables().better(0, 9), 985);
    }

    private static void betterOfTied() {
        StablePairs x = Examples.crossedByTies();
        due("better(0, 1)", x.better(0, 1), 13);
        due("better(1, 0)", x.better(1, 0), 13);
        StablePairs turned = Examples.crossedByTiesTurned();
        due("turned, better(0, 1)", turned.better(0, 1), 8);
        due("turned, better(1, 0)", turned.better(1, 0), 8);
    }

    private static void betterWithOnlyPlace() {
        StablePairs x = Examples.crossedWithThird();
        due("seeker 2 has place 2 in both", x.better(0, 1), 121);
        due("turned", x.better(1, 0), 121);
        due("all five", Examples.diagonal().better(0, 0), 7465);
    }

    private static void betterWithNone() {
        due("nobody has a place", new StablePairs(5).better(0, 0), 0);
        due("the first has none", Examples.leftOver().better(0, 0), 6);
        due("the last has none in both", Examples.crossedBesideNobody().better(0, 1), 13);
        StablePairs first = Examples.pairs("000 021 012", "000 012 021");
        due("the first has none in both", first.better(0, 1), 2 * 6 + 3 * 36);
    }

    private static void betterOfOne() {
        StablePairs x = Examples.sixteenStables();
        for (int i = 0; i < 16; i++) {
            due("better(" + i + ", " + i + ")", x.better(i, i), SIXTEEN[i]);
        }
    }

    private static void betterIsStable() {
        StablePairs x = Examples.sixteenStables();
        for (int i = 0; i < 16; i++) {
            for (int j = 0; j < i; j++) {
                int number = x.better(i, j);
                due("blocking the better of " + i + ", " + j, x.blocking(number), 0);
                due("the other way round", x.better(j, i), number);
            }
        }
    }

    private static void betterFirstPosition() {
        StablePairs x = Examples.crossed();
        for (int bad : new int[] {MIN, -2, -1, 2, 3, 256, 7776, MAX}) {
            due("better(" + bad + ", 0)", x.better(bad, 0), -1);
            due("better(" + bad + ", 1)", x.better(bad, 1), -1);
            due("neither is there: " + bad, x.better(bad, bad), -1);
        }
        due("new, the second", new StablePairs(5).better(1, 0), -1);
        due("the last is there", x.better(1, 0), 13);
    }

    private static void betterSecondPosition() {
        StablePairs x = Examples.crossed();
        for (int bad : new int[] {MIN, -2, -1, 2, 3, 256, 7776, MAX}) {
            due("better(0, " + bad + ")", x.better(0, bad), -1);
            due("better(1, " + bad + ")", x.better(1, bad), -1);
        }
        due("new, the second", new StablePairs(5).better(0, 1), -1);
        due("the last is there", x.better(0, 1), 13);
    }
}
