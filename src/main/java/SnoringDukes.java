/**
 * Dukes who snore, in a weak heap: the quietest one lies at the top, and each of the others is no
 * quieter than one single duke above, who need not be the one directly above.
 */
public final class SnoringDukes {
    private static final int MOST_BERTHS = 63;
    private static final int MOST_NUMBERS = 500;
    private static final int MOST_IN_A_COACH = 20;
    private static final int LOUDEST = 999;
    private static final int NONE = -1;

    private final WeakHeap heap = new WeakHeap();
    // Leaving is tried out here, so that in the heap itself nothing is changed and nothing counted.
    private final WeakHeap trial = new WeakHeap();
    // The numbers given so far, which is the next duke's number too.
    private int numbered = 0;

    public SnoringDukes() {
    }

    // ---- dukes come and go

    public int come(int loudness) throws IllegalArgumentException, IllegalStateException {
        if (!isUpToLoudest(loudness)) {
            throw new IllegalArgumentException("loudness must be 0 to 999");
        }
        if (!hasRoomFor(1)) {
            throw new IllegalStateException("63 lie here, or 500 have come");
        }
        int number = numbered;
        numbered++;
        heap.insert(number, loudness);
        return number;
    }

    public int coach(int dukes, int first, int step) throws IllegalArgumentException, IllegalStateException {
        if (dukes < 1 || dukes > MOST_IN_A_COACH) {
            throw new IllegalArgumentException("dukes must be 1 to 20");
        }
        if (!isUpToLoudest(first) || !isUpToLoudest(step)) {
            throw new IllegalArgumentException("first and step must be 0 to 999");
        }
        if (!hasRoomFor(dukes)) {
            throw new IllegalStateException("more than 63 would lie here, or more than 500 would have come");
        }
        int before = heap.compared;
        for (int i = 0; i < dukes; i++) {
            heap.lay(numbered, (first + i * step) % (LOUDEST + 1));
            numbered++;
        }
        heap.joinAll();
        return heap.compared - before;
    }

    public int leave() throws IllegalStateException {
        if (heap.size == 0) {
            throw new IllegalStateException("nobody lies here");
        }
        return heap.removeTop();
    }

    public int hush(int duke, int loudness) throws IndexOutOfBoundsException, IllegalArgumentException {
        int berth = heap.find(duke);
        if (berth == NONE) {
            throw new IndexOutOfBoundsException("he does not lie here");
        }
        if (loudness < 0 || loudness > heap.loudnessAt(berth)) {
            throw new IllegalArgumentException("loudness must be 0 up to what he has");
        }
        return heap.quieten(berth, loudness);
    }

    public int fetch(int duke) throws IndexOutOfBoundsException {
        int berth = heap.find(duke);
        if (berth == NONE) {
            throw new IndexOutOfBoundsException("he does not lie here");
        }
        int before = heap.compared;
        heap.quieten(berth, WeakHeap.QUIETER_THAN_ALL);
        heap.removeTop();
        return heap.compared - before;
    }

    // ---- how they lie

    public int dukes() {
        return heap.size;
    }

    public int quietest() {
        return heap.dukeAt(0);
    }

    public int berthOf(int duke) {
        return heap.find(duke);
    }

    public int dukeIn(int berth) throws IndexOutOfBoundsException {
        refuseUnlessBerth(berth);
        return heap.dukeAt(berth);
    }

    public int loudnessIn(int berth) throws IndexOutOfBoundsException {
        refuseUnlessBerth(berth);
        return heap.loudnessAt(berth);
    }

    public int sideOf(int berth) throws IndexOutOfBoundsException {
        refuseUnlessBerth(berth);
        return heap.sideAt(berth);
    }

    public int elderOf(int berth) throws IndexOutOfBoundsException {
        refuseUnlessBerth(berth);
        return berth == 0 ? NONE : heap.elder(berth);
    }

    public int followersOf(int berth) throws IndexOutOfBoundsException {
        refuseUnlessBerth(berth);
        return heap.countFollowers(berth);
    }

    public int flipped() {
        return heap.countFlipped();
    }

    // ---- what it cost, and would cost

    public int comparisons() {
        return heap.compared;
    }

    public int changes() {
        return heap.changed;
    }

    public int comparisonsToEmpty() {
        trial.copyFrom(heap);
        trial.removeTops(heap.size);
        return trial.compared - heap.compared;
    }

    public int leavesAt(int place) throws IndexOutOfBoundsException {
        if (!heap.has(place)) {
            throw new IndexOutOfBoundsException("there is no such place");
        }
        trial.copyFrom(heap);
        trial.removeTops(place);
        return trial.dukeAt(0);
    }

    public int quieterThan(int duke) throws IndexOutOfBoundsException {
        int berth = heap.find(duke);
        if (berth == NONE) {
            throw new IndexOutOfBoundsException("he does not lie here");
        }
        return heap.countBelow(heap.loudnessAt(berth));
    }

    // ---- what the calls above ask before they begin

    private static boolean isUpToLoudest(int value) {
        return value >= 0 && value <= LOUDEST;
    }

    private boolean hasRoomFor(int more) {
        return heap.size + more <= MOST_BERTHS && numbered + more <= MOST_NUMBERS;
    }

    private void refuseUnlessBerth(int berth) {
        if (!heap.has(berth)) {
            throw new IndexOutOfBoundsException("there is no such berth");
        }
    }

    /** The berths with their dukes and sides. What is asked of a berth that is not there changes nothing. */
    private static final class WeakHeap {
        static final int QUIETER_THAN_ALL = -1;

        private final int[] duke = new int[MOST_BERTHS];
        private final int[] loudness = new int[MOST_BERTHS];
        private final int[] side = new int[MOST_BERTHS];
        private int size = 0;
        private int compared = 0;
        private int changed = 0;

        boolean has(int berth) {
            return berth >= 0 && berth < size && berth < MOST_BERTHS;
        }

        int dukeAt(int berth) {
            return has(berth) ? duke[berth] : NONE;
        }

        int loudnessAt(int berth) {
            return has(berth) ? loudness[berth] : NONE;
        }

        int sideAt(int berth) {
            return has(berth) ? side[berth] : 0;
        }

        int find(int number) {
            for (int berth = 0; berth < size; berth++) {
                if (dukeAt(berth) == number) {
                    return berth;
                }
            }
            return NONE;
        }

        int left(int berth) {
            return 2 * berth + sideAt(berth);
        }

        int elder(int berth) {
            int at = berth;
            // Berth 1 is where the way up ends: nothing is to the left of berth 0.
            while (at > 1 && at == left(at / 2)) {
                at = at / 2;
            }
            return at / 2;
        }

        int countFollowers(int berth) {
            int followers = 0;
            for (int other = 1; other < size; other++) {
                if (elder(other) == berth) {
                    followers++;
                }
            }
            return followers;
        }

        int countFlipped() {
            int flips = 0;
            for (int berth = 0; berth < size; berth++) {
                flips += sideAt(berth);
            }
            return flips;
        }

        /** Below an elder who is not quieter himself nobody can be, so such a berth is passed by. */
        int countBelow(int limit) {
            // Bit b stands for berth b; an elder has the lower number, so he is told before his followers.
            long below = 0L;
            for (int berth = 0; berth < size; berth++) {
                boolean canBeBelow = berth == 0 || ((below >>> elder(berth)) & 1L) != 0L;
                if (canBeBelow && loudnessAt(berth) < limit) {
                    below |= 1L << berth;
                }
            }
            return Long.bitCount(below);
        }

        void lay(int number, int loud) {
            int berth = size;
            if (berth < 0 || berth >= MOST_BERTHS) {
                return;
            }
            duke[berth] = number;
            loudness[berth] = loud;
            side[berth] = 0;
            size = berth + 1;
        }

        void insert(int number, int loud) {
            int berth = size;
            lay(number, loud);
            if (berth % 2 == 0 && has(berth / 2)) {
                side[berth / 2] = 0;
            }
            rise(berth);
        }

        void joinAll() {
            for (int berth = 0; berth < MOST_BERTHS; berth++) {
                side[berth] = 0;
            }
            for (int berth = size - 1; berth > 0; berth--) {
                join(elder(berth), berth);
            }
        }

        int quieten(int berth, int loud) {
            if (has(berth)) {
                loudness[berth] = loud;
            }
            return rise(berth);
        }

        int removeTop() {
            if (!has(0)) {
                return NONE;
            }
            int gone = duke[0];
            int last = size - 1;
            if (has(last)) {
                duke[0] = duke[last];
                loudness[0] = loudness[last];
            }
            size = last;
            if (size > 1) {
                joinTop();
            }
            return gone;
        }

        void removeTops(int many) {
            for (int i = 0; i < many; i++) {
                removeTop();
            }
        }

        void copyFrom(WeakHeap other) {
            size = other.size;
            compared = other.compared;
            changed = other.changed;
            for (int berth = 0; berth < MOST_BERTHS; berth++) {
                duke[berth] = other.duke[berth];
                loudness[berth] = other.loudness[berth];
                side[berth] = other.side[berth];
            }
        }

        private int rise(int from) {
            int berth = from;
            // An elder lies at least one level up, so a way has fewer steps than there are berths.
            for (int step = 0; step < MOST_BERTHS && berth > 0; step++) {
                int elder = elder(berth);
                if (!join(elder, berth)) {
                    return berth;
                }
                berth = elder;
            }
            return berth;
        }

        private void joinTop() {
            int lowest = 1;
            for (int step = 0; step < MOST_BERTHS && has(left(lowest)); step++) {
                lowest = left(lowest);
            }
            for (int berth = lowest; berth > 0; berth = berth / 2) {
                join(0, berth);
            }
        }

        /** Tells whether both dukes changed berths. */
        private boolean join(int elder, int berth) {
            if (!has(elder) || !has(berth)) {
                return false;
            }
            compared++;
            if (loudness[berth] >= loudness[elder]) {
                return false;
            }
            changed++;
            exchange(elder, berth);
            side[berth] = 1 - side[berth];
            return true;
        }

        private void exchange(int one, int other) {
            int number = duke[one];
            int loud = loudness[one];
            duke[one] = duke[other];
            loudness[one] = loudness[other];
            duke[other] = number;
            loudness[other] = loud;
        }
    }
}
