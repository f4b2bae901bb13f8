/**
 * Stable pairs between two sides that rank each other.
 *
 * <p>A matching is held as its number alone: the digit of weight 6^s is one more than the place
 * paired with seeker s, and 0 if s is in no pair. Every question runs over all numbers, so that
 * nothing but the likings is ever kept, and no question can change anything.
 */
public final class StablePairs {
    private static final int LEAST_SIZE = 2;
    private static final int GREATEST_SIZE = 5;
    private static final int LIKINGS = 50;
    private static final int GREATEST_LIKING = 9;
    private static final int CYCLE = 9;
    private static final int BASE = 6;
    private static final int SEEKERS = 0;
    private static final int PLACES = 1;
    private static final int NONE = -1;
    /** At most 5 pairs cost at most 4 + 4 each. */
    private static final int ABOVE_ANY_COST = 41;

    private final int n;
    /** 6^n: every number of a matching is less. */
    private final int numberBound;
    private final int[] likings = new int[LIKINGS];

    public StablePairs(int size) {
        n = size < LEAST_SIZE ? LEAST_SIZE : size > GREATEST_SIZE ? GREATEST_SIZE : size;
        int bound = 1;
        for (int k = 0; k < n; k++) {
            bound *= BASE;
        }
        numberBound = bound;
    }

    public int size() {
        return n;
    }

    public int seekerLikes(int seeker, int place, int value) {
        return changeLiking(SEEKERS, seeker, place, value);
    }

    public int placeLikes(int place, int seeker, int value) {
        return changeLiking(PLACES, place, seeker, value);
    }

    public int likeAll(int side, int who, int start, int step) {
        if (side != SEEKERS && side != PLACES) {
            return -1;
        }
        if (!isGood(who)) {
            return -2;
        }
        if (start < 0 || start >= CYCLE || step < 0 || step >= CYCLE) {
            return -3;
        }
        for (int k = 0; k < n; k++) {
            likings[slot(side, who, k)] = 1 + (start + k * step) % CYCLE;
        }
        return 0;
    }

    public int fitting(int seeker, int place) {
        if (!isGood(seeker) || !isGood(place)) {
            return -1;
        }
        return fits(SEEKERS, seeker, place) ? 1 : 0;
    }

    public int stables() {
        int count = 0;
        for (int number = 0; number < numberBound; number++) {
            if (isStable(number)) {
                count++;
            }
        }
        return count;
    }

    public int stable(int i) {
        int position = 0;
        for (int number = 0; number < numberBound; number++) {
            if (isStable(number)) {
                if (position == i) {
                    return number;
                }
                position++;
            }
        }
        return -1;
    }

    public int blocking(int number) {
        if (!isMatching(number)) {
            return -1;
        }
        int count = 0;
        for (int seeker = 0; seeker < n; seeker++) {
            for (int place = 0; place < n; place++) {
                if (blocks(seeker, place, number)) {
                    count++;
                }
            }
        }
        return count;
    }

    public int bestFor(int seeker) {
        if (!isGood(seeker)) {
            return -1;
        }
        int best = NONE;
        for (int number = 0; number < numberBound; number++) {
            if (isStable(number)) {
                int place = placeOf(seeker, number);
                best = preferredPlace(seeker, best, place);
            }
        }
        return best == NONE ? -2 : best;
    }

    public int worstFor(int seeker) {
        if (!isGood(seeker)) {
            return -1;
        }
        int worst = NONE;
        for (int number = 0; number < numberBound; number++) {
            if (isStable(number)) {
                int place = placeOf(seeker, number);
                if (place != NONE && (worst == NONE || prefers(SEEKERS, seeker, worst, place))) {
                    worst = place;
                }
            }
        }
        return worst == NONE ? -2 : worst;
    }

    public int together(int seeker, int place) {
        if (!isGood(seeker) || !isGood(place)) {
            return -1;
        }
        int count = 0;
        for (int number = 0; number < numberBound; number++) {
            if (placeOf(seeker, number) == place && isStable(number)) {
                count++;
            }
        }
        return count;
    }

    public int placed() {
        int count = 0;
        for (int seeker = 0; seeker < n; seeker++) {
            if (isAlwaysPaired(seeker)) {
                count++;
            }
        }
        return count;
    }

    public int leastCost() {
        int number = fairest();
        return costOf(number);
    }

    public int fairest() {
        int fairestNumber = 0;
        int least = ABOVE_ANY_COST;
        for (int number = 0; number < numberBound; number++) {
            if (isStable(number)) {
                int cost = costOf(number);
                if (cost < least) {
                    fairestNumber = number;
                    least = cost;
                }
            }
        }
        return fairestNumber;
    }

    public int better(int i, int j) {
        int first = stable(i);
        int second = stable(j);
        if (first < 0 || second < 0) {
            return -1;
        }
        int number = 0;
        int weight = 1;
        for (int seeker = 0; seeker < n; seeker++) {
            int firstPlace = placeOf(seeker, first);
            int secondPlace = placeOf(seeker, second);
            int place = preferredPlace(seeker, firstPlace, secondPlace);
            number += (place + 1) * weight;
            weight *= BASE;
        }
        return number;
    }

    private boolean isGood(int who) {
        return who >= 0 && who < n;
    }

    private int changeLiking(int side, int who, int whom, int value) {
        if (!isGood(who)) {
            return -1;
        }
        if (!isGood(whom)) {
            return -2;
        }
        if (value < 0 || value > GREATEST_LIKING) {
            return -3;
        }
        int at = slot(side, who, whom);
        int before = likings[at];
        likings[at] = value;
        return before;
    }

    private static int slot(int side, int who, int whom) {
        return (side * GREATEST_SIZE + who) * GREATEST_SIZE + whom;
    }

    /** Of the given side is who; whom is of the other side. */
    private boolean fits(int side, int who, int whom) {
        int otherSide = SEEKERS + PLACES - side;
        return likings[slot(side, who, whom)] > 0 && likings[slot(otherSide, whom, who)] > 0;
    }

    /** Of the given side is who; first and second are of the other side. */
    private boolean prefers(int side, int who, int first, int second) {
        int firstLiking = likings[slot(side, who, first)];
        int secondLiking = likings[slot(side, who, second)];
        return firstLiking > secondLiking || firstLiking == secondLiking && first < second;
    }

    /** Either place may be NONE, which is the answer only if both are. */
    private int preferredPlace(int seeker, int first, int second) {
        if (first == NONE) {
            return second;
        }
        if (second == NONE) {
            return first;
        }
        return prefers(SEEKERS, seeker, second, first) ? second : first;
    }

    /** NONE if the seeker is in no pair. */
    private static int placeOf(int seeker, int number) {
        int rest = number;
        for (int k = 0; k < seeker; k++) {
            rest /= BASE;
        }
        return rest % BASE - 1;
    }

    /** The first seeker paired with the place; NONE if there is none. */
    private int seekerOf(int place, int number) {
        int rest = number;
        for (int seeker = 0; seeker < n; seeker++) {
            if (rest % BASE - 1 == place) {
                return seeker;
            }
            rest /= BASE;
        }
        return NONE;
    }

    private boolean isMatching(int number) {
        if (number < 0 || number >= numberBound) {
            return false;
        }
        for (int seeker = 0; seeker < n; seeker++) {
            int place = placeOf(seeker, number);
            if (place == NONE) {
                continue;
            }
            // A digit of the number can name a place that a small object does not have.
            if (!isGood(place) || !fits(SEEKERS, seeker, place)) {
                return false;
            }
            // Of two seekers with the same place, the second is not the first one found.
            if (seekerOf(place, number) != seeker) {
                return false;
            }
        }
        return true;
    }

    private boolean isStable(int number) {
        if (!isMatching(number)) {
            return false;
        }
        for (int seeker = 0; seeker < n; seeker++) {
            for (int place = 0; place < n; place++) {
                if (blocks(seeker, place, number)) {
                    return false;
                }
            }
        }
        return true;
    }

    private boolean blocks(int seeker, int place, int number) {
        if (!fits(SEEKERS, seeker, place)) {
            return false;
        }
        // A pair of the matching itself drops out here: nobody prefers a partner to itself.
        int ownPlace = placeOf(seeker, number);
        if (ownPlace != NONE && !prefers(SEEKERS, seeker, place, ownPlace)) {
            return false;
        }
        int ownSeeker = seekerOf(place, number);
        return ownSeeker == NONE || prefers(PLACES, place, seeker, ownSeeker);
    }

    private boolean isAlwaysPaired(int seeker) {
        for (int number = 0; number < numberBound; number++) {
            if (placeOf(seeker, number) == NONE && isStable(number)) {
                return false;
            }
        }
        return true;
    }

    private int costOf(int number) {
        int cost = 0;
        for (int seeker = 0; seeker < n; seeker++) {
            int place = placeOf(seeker, number);
            if (place != NONE) {
                cost += rank(SEEKERS, seeker, place) + rank(PLACES, place, seeker);
            }
        }
        return cost;
    }

    /** Of the given side is who; whom is of the other side. */
    private int rank(int side, int who, int whom) {
        int rank = 0;
        for (int k = 0; k < n; k++) {
            if (fits(side, who, k) && prefers(side, who, k, whom)) {
                rank++;
            }
        }
        return rank;
    }
}
