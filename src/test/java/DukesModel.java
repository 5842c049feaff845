import java.util.ArrayList;
import java.util.List;

/**
 * A second telling of the document, to hold the program against. It goes the other way round where it can:
 * followers are found downwards from an elder, and the elder by asking whose follower a berth is.
 */
final class DukesModel {
    static final int BAD_ARGUMENT = -1001;
    static final int BAD_STATE = -1002;
    static final int BAD_INDEX = -1003;

    private static final class Lying {
        final int number;
        final int loudness;
        final boolean fetched;

        Lying(int number, int loudness, boolean fetched) {
            this.number = number;
            this.loudness = loudness;
            this.fetched = fetched;
        }

        boolean isQuieterThan(Lying other) {
            return fetched || loudness < other.loudness;
        }
    }

    private List<Lying> berths = new ArrayList<>();
    private List<Boolean> flips = new ArrayList<>();
    private int come = 0;
    int comparisons = 0;
    int changes = 0;

    private DukesModel copy() {
        DukesModel twin = new DukesModel();
        twin.berths = new ArrayList<>(berths);
        twin.flips = new ArrayList<>(flips);
        twin.come = come;
        return twin;
    }

    int dukes() {
        return berths.size();
    }

    private boolean isBerth(int berth) {
        return berth >= 0 && berth < berths.size();
    }

    /** From the first one down to the left, in the order in which they are met. */
    List<Integer> followers(int elder) {
        List<Integer> found = new ArrayList<>();
        int right = elder == 0 ? 1 : flips.get(elder) ? 2 * elder : 2 * elder + 1;
        for (int at = right; isBerth(at); at = flips.get(at) ? 2 * at + 1 : 2 * at) {
            found.add(at);
        }
        return found;
    }

    private int elder(int berth) {
        for (int other = 0; other < berths.size(); other++) {
            if (followers(other).contains(berth)) {
                return other;
            }
        }
        return -1;
    }

    private boolean join(int elder, int berth) {
        comparisons++;
        Lying below = berths.get(berth);
        Lying above = berths.get(elder);
        if (!below.isQuieterThan(above)) {
            return false;
        }
        changes++;
        berths.set(berth, above);
        berths.set(elder, below);
        flips.set(berth, !flips.get(berth));
        return true;
    }

    private int rise(int berth) {
        if (berth == 0) {
            return 0;
        }
        int elder = elder(berth);
        return join(elder, berth) ? rise(elder) : berth;
    }

    private static boolean isLoudness(int value) {
        return 0 <= value && value < 1000;
    }

    int come(int loudness) {
        if (!isLoudness(loudness)) {
            return BAD_ARGUMENT;
        }
        if (dukes() == 63 || come == 500) {
            return BAD_STATE;
        }
        int berth = dukes();
        berths.add(new Lying(come, loudness, false));
        flips.add(false);
        if (berth % 2 == 0) {
            flips.set(berth / 2, false);
        }
        rise(berth);
        return come++;
    }

    int coach(int dukes, int first, int step) {
        if (dukes < 1 || dukes > 20 || !isLoudness(first) || !isLoudness(step)) {
            return BAD_ARGUMENT;
        }
        if (dukes() + dukes > 63 || come + dukes > 500) {
            return BAD_STATE;
        }
        int loudness = first;
        for (int left = dukes; left > 0; left--) {
            berths.add(new Lying(come++, loudness, false));
            loudness = loudness + step >= 1000 ? loudness + step - 1000 : loudness + step;
        }
        flips.clear();
        for (int berth = 0; berth < dukes(); berth++) {
            flips.add(false);
        }
        int before = comparisons;
        for (int berth = dukes() - 1; berth >= 1; berth--) {
            join(elder(berth), berth);
        }
        return comparisons - before;
    }

    int leave() {
        if (berths.isEmpty()) {
            return BAD_STATE;
        }
        int number = berths.get(0).number;
        int last = dukes() - 1;
        berths.set(0, berths.get(last));
        berths.remove(last);
        flips.remove(last);
        if (dukes() > 1) {
            List<Integer> way = followers(0);
            for (int i = way.size() - 1; i >= 0; i--) {
                join(0, way.get(i));
            }
        }
        return number;
    }

    int hush(int duke, int loudness) {
        int berth = berthOf(duke);
        if (berth < 0) {
            return BAD_INDEX;
        }
        if (loudness < 0 || loudness > berths.get(berth).loudness) {
            return BAD_ARGUMENT;
        }
        berths.set(berth, new Lying(duke, loudness, false));
        return rise(berth);
    }

    int fetch(int duke) {
        int berth = berthOf(duke);
        if (berth < 0) {
            return BAD_INDEX;
        }
        int before = comparisons;
        berths.set(berth, new Lying(duke, berths.get(berth).loudness, true));
        rise(berth);
        leave();
        return comparisons - before;
    }

    int quietest() {
        return berths.isEmpty() ? -1 : berths.get(0).number;
    }

    int berthOf(int duke) {
        for (int berth = 0; berth < dukes(); berth++) {
            if (berths.get(berth).number == duke) {
                return berth;
            }
        }
        return -1;
    }

    int dukeIn(int berth) {
        return isBerth(berth) ? berths.get(berth).number : BAD_INDEX;
    }

    int loudnessIn(int berth) {
        return isBerth(berth) ? berths.get(berth).loudness : BAD_INDEX;
    }

    int sideOf(int berth) {
        return !isBerth(berth) ? BAD_INDEX : flips.get(berth) ? 1 : 0;
    }

    int elderOf(int berth) {
        return isBerth(berth) ? elder(berth) : BAD_INDEX;
    }

    int followersOf(int berth) {
        return isBerth(berth) ? followers(berth).size() : BAD_INDEX;
    }

    int flipped() {
        int count = 0;
        for (boolean flip : flips) {
            count += flip ? 1 : 0;
        }
        return count;
    }

    int comparisonsToEmpty() {
        DukesModel twin = copy();
        while (twin.dukes() > 0) {
            twin.leave();
        }
        return twin.comparisons;
    }

    int leavesAt(int place) {
        if (!isBerth(place)) {
            return BAD_INDEX;
        }
        DukesModel twin = copy();
        int number = twin.leave();
        for (int left = place; left > 0; left--) {
            number = twin.leave();
        }
        return number;
    }

    int quieterThan(int duke) {
        int berth = berthOf(duke);
        if (berth < 0) {
            return BAD_INDEX;
        }
        int count = 0;
        for (Lying other : berths) {
            count += other.loudness < berths.get(berth).loudness ? 1 : 0;
        }
        return count;
    }

    boolean isWeakHeap() {
        for (int elder = 0; elder < dukes(); elder++) {
            for (int follower : followers(elder)) {
                if (berths.get(follower).isQuieterThan(berths.get(elder))) {
                    return false;
                }
            }
        }
        return true;
    }
}
