import java.util.List;
import java.util.function.Supplier;

/** A state that tests begin from, made anew for each call that is tried, as 512 calls of one object are promised. */
final class House {
    static final House NOBODY = new House("nobody has come", SnoringDukes::new);
    static final House ONE = new House("one lies", House::one);
    static final House TWO = new House("two lie", House::two);
    static final House FOUR = new House("four lie", House::four);
    static final House EMPTIED = new House("all four have left", () -> afterLeaving(four(), 4));
    static final House THREE_HAS_LEFT = new House("3 of four has left", () -> afterLeaving(four(), 1));
    static final House TWO_WAS_FETCHED = new House("2 of four was fetched", House::twoWasFetched);
    static final House FIVE_WITH_FLIPS = new House("five lie, two flipped", House::fiveWithFlips);
    static final House SIXTY_TWO = new House("62 lie", () -> used(62, 62));
    static final House FULL = new House("63 lie", () -> used(63, 63));
    static final House ONE_NUMBER_LEFT = new House("499 have come", () -> used(499, 60));
    static final House USED_UP = new House("500 have come", () -> used(500, 60));
    static final House FULL_AND_USED_UP = new House("63 lie and 500 have come", () -> used(500, 63));

    private static final House[] ALL = {
        NOBODY, ONE, TWO, FOUR, EMPTIED, THREE_HAS_LEFT, TWO_WAS_FETCHED, FIVE_WITH_FLIPS, SIXTY_TWO, FULL,
        ONE_NUMBER_LEFT, USED_UP, FULL_AND_USED_UP,
    };

    final String name;
    private final Supplier<SnoringDukes> maker;
    private List<String> told = null;

    House(String name, Supplier<SnoringDukes> maker) {
        this.name = name;
        this.maker = maker;
    }

    static House[] all() {
        return ALL.clone();
    }

    SnoringDukes make() {
        return maker.get();
    }

    /** What all calls tell here. */
    List<String> telling() {
        if (told == null) {
            told = Telling.of(maker);
        }
        return told;
    }

    /** The duke 0, with the loudness 500. */
    private static SnoringDukes one() {
        SnoringDukes x = new SnoringDukes();
        x.come(500);
        return x;
    }

    /** The dukes 0 (500) and 1 (700), unflipped; one comparison, no change. */
    private static SnoringDukes two() {
        SnoringDukes x = one();
        x.come(700);
        return x;
    }

    /**
     * Told by hand: the berths hold the dukes 3 (20), 1 (30), 2 (40), 0 (50), with the sides 0, 1, 0, 1;
     * the elder of 3 is 0, over the flipped 1, and the elder of 2 is 1. Four comparisons, three changes.
     */
    private static SnoringDukes four() {
        SnoringDukes x = new SnoringDukes();
        x.come(50);
        x.come(30);
        x.come(40);
        x.come(20);
        return x;
    }

    private static SnoringDukes twoWasFetched() {
        SnoringDukes x = four();
        x.fetch(2);
        return x;
    }

    /**
     * Told by hand: 700, 0, 300, 600, 900 are laid; 2 rises over 0, then 1 over 0. The berths hold the dukes
     * 1 (0), 2 (300), 0 (700), 3 (600), 4 (900), with the sides 0, 1, 1, 0, 0; the elders of the berths 1 to 4
     * are 0, 1, 0, 2. Four comparisons, two changes.
     */
    private static SnoringDukes fiveWithFlips() {
        SnoringDukes x = new SnoringDukes();
        x.coach(5, 700, 300);
        return x;
    }

    private static SnoringDukes afterLeaving(SnoringDukes x, int many) {
        for (int i = 0; i < many; i++) {
            x.leave();
        }
        return x;
    }

    /** So many have come, by coaches, and so many lie here still. At most 466 calls, for 500 who have come. */
    static SnoringDukes used(int come, int lying) {
        SnoringDukes x = new SnoringDukes();
        int here = 0;
        for (int given = 0; given < come; ) {
            int many = Math.min(20, come - given);
            int leaving = Math.max(0, here + many - lying);
            afterLeaving(x, leaving);
            x.coach(many, (37 * given + 500) % 1000, 613);
            here += many - leaving;
            given += many;
        }
        return x;
    }
}
