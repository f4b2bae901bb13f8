/** Objects that several tests start from, with what was worked out of them by hand. */
final class Examples {
    static final int MIN = Integer.MIN_VALUE;
    static final int MAX = Integer.MAX_VALUE;

    private Examples() {
    }

    /** Seeker s likes the places by row s of the first text, a digit each; the places likewise. */
    static StablePairs pairs(String seekerRows, String placeRows) {
        String[] seekers = seekerRows.split(" ");
        String[] places = placeRows.split(" ");
        StablePairs x = new StablePairs(seekers.length);
        for (int who = 0; who < seekers.length; who++) {
            for (int whom = 0; whom < seekers.length; whom++) {
                x.seekerLikes(who, whom, seekers[who].charAt(whom) - '0');
                x.placeLikes(who, whom, places[who].charAt(whom) - '0');
            }
        }
        return x;
    }

    /** The likings as two texts in the form of pairs; reading them sets them all to 0. */
    static String takeLikings(StablePairs x) {
        StringBuilder seekers = new StringBuilder();
        StringBuilder places = new StringBuilder();
        for (int who = 0; who < x.size(); who++) {
            for (int whom = 0; whom < x.size(); whom++) {
                seekers.append(x.seekerLikes(who, whom, 0));
                places.append(x.placeLikes(who, whom, 0));
            }
            seekers.append(' ');
            places.append(' ');
        }
        return seekers.toString().trim() + " / " + places.toString().trim();
    }

    /** Each side's first choices are the other side's last: the stable matchings are 8 and 13. */
    static StablePairs crossed() {
        return pairs("21 12", "12 21");
    }

    /** As crossed, but with the lesser number in the place of the greater liking where it can be. */
    static StablePairs crossedByTies() {
        return pairs("55 12", "12 55");
    }

    /** The same turned: here the seekers are better off in 8, and seeker 1 likes both alike. */
    static StablePairs crossedByTiesTurned() {
        return pairs("12 55", "55 12");
    }

    /** As crossed, beside a seeker and a place that fit nobody: stable are 8 and 13 too. */
    static StablePairs crossedBesideNobody() {
        return pairs("210 120 000", "120 210 000");
    }

    /** Two crossed twos side by side: the stable matchings are 800, 805, 980 and 985. */
    static StablePairs twiceCrossed() {
        return pairs("2100 1200 0021 0012", "1200 2100 0012 0021");
    }

    /**
     * Seeker 2 and place 2 are each other's first; the rest is crossed, but seeker 0 has place 2
     * between its two. Stable are 116, of cost 3, and 121, of cost 2.
     */
    static StablePairs crossedWithThird() {
        return pairs("312 231 213", "231 321 213");
    }

    /** Seeker 0 and place 1 are left over beside the pair of seeker 1 and place 0. */
    static StablePairs leftOver() {
        return pairs("50 50", "12 00");
    }

    /** Seeker k fits place k and no other: stable is 7465 alone. */
    static StablePairs diagonal() {
        return pairs("90000 09000 00900 00090 00009", "10000 01000 00100 00010 00001");
    }

    /** The well-known four with ten stable matchings; no four has more. */
    static StablePairs tenStables() {
        return pairs("4321 3412 2143 1234", "1234 2143 3412 4321");
    }

    /** Five with sixteen stable matchings; no five has more. */
    static StablePairs sixteenStables() {
        return pairs("25314 14235 12543 51423 32451", "21534 12354 45132 54321 32145");
    }
}
