import java.util.ArrayList;
import java.util.Comparator;
import java.util.List;

/**
 * The document's terms once more, word by word and by another way than the program's: matchings
 * are built pair by pair as arrays of places, and only then numbered and sorted.
 */
final class Model {
    final int n;
    final int[][] seekerLiking;
    final int[][] placeLiking;

    Model(int size) {
        n = Math.max(2, Math.min(5, size));
        seekerLiking = new int[n][n];
        placeLiking = new int[n][n];
    }

    boolean good(int who) {
        return 0 <= who && who < n;
    }

    int like(int[][] likings, int who, int whom, int value) {
        if (!good(who)) {
            return -1;
        }
        if (!good(whom)) {
            return -2;
        }
        if (value < 0 || value > 9) {
            return -3;
        }
        int before = likings[who][whom];
        likings[who][whom] = value;
        return before;
    }

    int likeAll(int side, int who, int start, int step) {
        if (side != 0 && side != 1) {
            return -1;
        }
        if (!good(who)) {
            return -2;
        }
        if (start < 0 || start > 8 || step < 0 || step > 8) {
            return -3;
        }
        int[] row = (side == 0 ? seekerLiking : placeLiking)[who];
        for (int k = 0; k < n; k++) {
            row[k] = 1 + Math.floorMod(start + k * step, 9);
        }
        return 0;
    }

    boolean fits(int seeker, int place) {
        return seekerLiking[seeker][place] > 0 && placeLiking[place][seeker] > 0;
    }

    /** All whom of a row, the most preferred first. */
    List<Integer> order(int[] row) {
        List<Integer> order = new ArrayList<>();
        for (int k = 0; k < n; k++) {
            order.add(k);
        }
        order.sort(Comparator.comparingInt((Integer k) -> -row[k]).thenComparingInt(k -> k));
        return order;
    }

    boolean prefers(int[] row, int first, int second) {
        List<Integer> order = order(row);
        return order.indexOf(first) < order.indexOf(second);
    }

    List<int[]> matchings() {
        List<int[]> found = new ArrayList<>();
        extend(new int[n], 0, found);
        found.sort(Comparator.comparingInt(this::number));
        return found;
    }

    private void extend(int[] places, int seeker, List<int[]> found) {
        if (seeker == n) {
            found.add(places.clone());
            return;
        }
        places[seeker] = -1;
        extend(places, seeker + 1, found);
        for (int place = 0; place < n; place++) {
            if (fits(seeker, place) && holder(places, seeker, place) < 0) {
                places[seeker] = place;
                extend(places, seeker + 1, found);
            }
        }
    }

    /** Which of the first seekers holds the place; -1 if none does. */
    private static int holder(int[] places, int seekers, int place) {
        for (int s = 0; s < seekers; s++) {
            if (places[s] == place) {
                return s;
            }
        }
        return -1;
    }

    int number(int[] places) {
        int number = 0;
        for (int s = n - 1; s >= 0; s--) {
            number = number * 6 + places[s] + 1;
        }
        return number;
    }

    int blocking(int[] places) {
        int count = 0;
        for (int s = 0; s < n; s++) {
            for (int p = 0; p < n; p++) {
                int rival = holder(places, n, p);
                boolean seekerWould = places[s] < 0 || prefers(seekerLiking[s], p, places[s]);
                boolean placeWould = rival < 0 || prefers(placeLiking[p], s, rival);
                if (fits(s, p) && places[s] != p && seekerWould && placeWould) {
                    count++;
                }
            }
        }
        return count;
    }

    List<int[]> stables() {
        List<int[]> found = matchings();
        found.removeIf(places -> blocking(places) > 0);
        return found;
    }

    int cost(int[] places) {
        int cost = 0;
        for (int s = 0; s < n; s++) {
            int p = places[s];
            for (int k = 0; p >= 0 && k < n; k++) {
                cost += fits(s, k) && prefers(seekerLiking[s], k, p) ? 1 : 0;
                cost += fits(k, p) && prefers(placeLiking[p], k, s) ? 1 : 0;
            }
        }
        return cost;
    }
}
