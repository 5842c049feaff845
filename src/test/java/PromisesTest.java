/** Each promise on its own: ordinary inputs, the edges that the document names, and wrong inputs. */
public final class PromisesTest {
    private static final Class<IllegalArgumentException> ARGUMENT = Check.ARGUMENT;
    private static final Class<IllegalStateException> STATE = Check.STATE;
    private static final Class<IndexOutOfBoundsException> INDEX = Check.INDEX;
    private static final int[] NEVER_A_NUMBER = {-1, -2, 63, 500, 501, Integer.MIN_VALUE, Integer.MAX_VALUE};

    private static Check check = new Check("PromisesTest");

    public static void main(String[] args) {
        aNewObject();
        come();
        coach();
        leave();
        hush();
        fetch();
        dukesAndQuietest();
        berthOf();
        whatABerthTells();
        flipped();
        comparisonsAndChanges();
        comparisonsToEmpty();
        leavesAt();
        quieterThan();
        whatThrowsChangesNothing();
        check.end();
    }

    /** The dukes 3 (20), 1 (30), 2 (40), 0 (50), with the sides 0, 1, 0, 1; four comparisons, three changes. */
    private static SnoringDukes four() {
        return House.FOUR.make();
    }

    private static SnoringDukes coaches(int many) {
        SnoringDukes x = new SnoringDukes();
        for (int i = 0; i < many; i++) {
            x.coach(20, 7 * i, 13);
        }
        return x;
    }

    /** So many have come that 499 numbers are used; 59 lie here. */
    private static SnoringDukes withOneNumberLeft() {
        SnoringDukes x = coaches(3);
        for (int i = 0; i < 21; i++) {
            for (int gone = 0; gone < 20; gone++) {
                x.leave();
            }
            x.coach(20, 11 * i, 17);
        }
        for (int gone = 0; gone < 20; gone++) {
            x.leave();
        }
        x.coach(19, 5, 5);
        return x;
    }

    private static void lie(String when, SnoringDukes x, int[] dukes, int[] sides) {
        check.dueBerths(when, x, dukes, sides);
    }

    private static void cost(String when, SnoringDukes x, int comparisons, int changes) {
        check.dueCost(when, x, comparisons, changes);
    }

    /** Promise 1. */
    private static void aNewObject() {
        SnoringDukes x = new SnoringDukes();
        lie("new", x, new int[0], new int[0]);
        cost("new", x, 0, 0);
        check.due("new: flipped()", x.flipped(), 0);
        check.due("new: quietest()", x.quietest(), -1);
        check.due("new: comparisonsToEmpty()", x.comparisonsToEmpty(), 0);
        four();
        check.due("new: dukes() after another object's calls", x.dukes(), 0);
    }

    /** Promise 2. */
    private static void come() {
        SnoringDukes x = new SnoringDukes();
        check.due("come(50)", x.come(50), 0);
        lie("one", x, new int[] {0}, new int[] {0});
        cost("one", x, 0, 0);
        check.due("come(30)", x.come(30), 1);
        lie("two", x, new int[] {1, 0}, new int[] {0, 1});
        cost("two", x, 1, 1);
        check.due("come(40)", x.come(40), 2);
        lie("three: an even berth sets the side above to 0", x, new int[] {1, 0, 2}, new int[] {0, 0, 0});
        cost("three", x, 2, 1);
        check.due("come(20)", x.come(20), 3);
        lie("four", x, new int[] {3, 1, 2, 0}, new int[] {0, 1, 0, 1});
        cost("four", x, 4, 3);
        check.due("come(20) again", x.come(20), 4);
        // Berth 4 is to the left of 2, and 2 to the right of the flipped 1: the elder is 1, then 0, as loud.
        lie("five: as loud is not quieter", x, new int[] {3, 4, 2, 0, 1}, new int[] {0, 1, 0, 1, 1});
        cost("five", x, 6, 4);
        comeAtTheEdges();
    }

    private static void comeAtTheEdges() {
        for (int loudness : new int[] {-1, 1000, Integer.MIN_VALUE, Integer.MAX_VALUE}) {
            check.dueThrow("come(" + loudness + ")", ARGUMENT, () -> new SnoringDukes().come(loudness));
        }
        check.due("come(0)", new SnoringDukes().come(0), 0);
        check.due("come(999)", new SnoringDukes().come(999), 0);
        SnoringDukes full = coaches(3);
        check.due("the 61st", full.come(999), 60);
        check.due("the 62nd", full.come(999), 61);
        check.due("the 63rd", full.come(0), 62);
        check.dueThrow("the 64th", STATE, () -> full.come(0));
        check.dueThrow("the 64th, out of range", ARGUMENT, () -> full.come(1000));
        full.leave();
        check.due("the 64th, when one has left", full.come(0), 63);
        SnoringDukes used = withOneNumberLeft();
        check.due("the number 499", used.come(1), 499);
        check.dueThrow("the 501st who comes", STATE, () -> used.come(1));
        check.dueThrow("the 501st who comes, out of range", ARGUMENT, () -> used.come(-1));
    }

    /** Promise 3. */
    private static void coach() {
        SnoringDukes x = new SnoringDukes();
        // 30, 20, 10, 0: 3 rises over 1, 2 over 0, then 1 over 0.
        check.due("coach(4, 30, 990)", x.coach(4, 30, 990), 3);
        lie("coach", x, new int[] {3, 2, 0, 1}, new int[] {0, 1, 1, 1});
        cost("coach", x, 3, 3);
        check.due("coach: loudnessIn(0)", x.loudnessIn(0), 0);
        check.due("coach: loudnessIn(3)", x.loudnessIn(3), 20);
        check.due("coach(1, 999, 0)", x.coach(1, 999, 0), 4);
        lie("a second coach sets all sides to 0", x, new int[] {3, 2, 0, 1, 4}, new int[] {0, 0, 0, 0, 0});
        cost("a second coach", x, 7, 3);
        check.due("a coach of one", new SnoringDukes().coach(1, 0, 0), 0);
        coachAtTheEdges();
    }

    private static void coachAtTheEdges() {
        int[][] wrong = {
            {0, 0, 0}, {-1, 0, 0}, {21, 0, 0}, {Integer.MAX_VALUE, 0, 0}, {Integer.MIN_VALUE, 0, 0},
            {1, -1, 0}, {1, 1000, 0}, {1, Integer.MAX_VALUE, 0}, {1, 0, -1}, {1, 0, 1000}, {1, 0, Integer.MIN_VALUE},
        };
        for (int[] w : wrong) {
            check.dueThrow("coach(" + w[0] + ", " + w[1] + ", " + w[2] + ")", ARGUMENT,
                () -> new SnoringDukes().coach(w[0], w[1], w[2]));
            check.dueThrow("coach(" + w[0] + ", " + w[1] + ", " + w[2] + ") on 60", ARGUMENT,
                () -> coaches(3).coach(w[0], w[1], w[2]));
        }
        SnoringDukes most = new SnoringDukes();
        check.due("coach(20, 999, 999)", most.coach(20, 999, 999), 19);
        check.due("coach(20, 999, 999): loudest step", most.loudnessIn(most.berthOf(19)), 980);
        check.due("coach(20, 999, 999): quietest", most.quietest(), 19);
        check.dueThrow("4 more than 60", STATE, () -> coaches(3).coach(4, 0, 0));
        check.due("3 more than 60", coaches(3).coach(3, 0, 0), 62);
        SnoringDukes used = withOneNumberLeft();
        check.dueThrow("2 more than 499", STATE, () -> used.coach(2, 0, 0));
        check.due("1 more than 499", used.coach(1, 0, 0), 59);
        check.dueThrow("1 more than 500", STATE, () -> used.coach(1, 0, 0));
    }

    /** Promise 4. */
    private static void leave() {
        check.dueThrow("leave() of nobody", STATE, () -> new SnoringDukes().leave());
        SnoringDukes x = four();
        check.due("leave()", x.leave(), 3);
        // The flipped 1 had only the gone berth 3 to its left, so 2 is not joined.
        lie("one has left", x, new int[] {1, 0, 2}, new int[] {0, 0, 0});
        cost("one has left", x, 5, 4);
        check.due("leave() of three", x.leave(), 1);
        lie("two have left", x, new int[] {2, 0}, new int[] {0, 0});
        cost("two have left", x, 6, 4);
        check.due("leave() of two", x.leave(), 2);
        cost("three have left", x, 6, 4);
        check.due("leave() of one", x.leave(), 0);
        cost("all have left", x, 6, 4);
        check.dueThrow("leave() of none", STATE, () -> x.leave());
        check.due("a number is not used again", x.come(9), 4);
        sideAboveAGoneBerthStays();
        aBerthBegunAnewHasTheSideZero();
    }

    private static void aBerthBegunAnewHasTheSideZero() {
        SnoringDukes x = four();
        x.leave();
        x.leave();
        // Berth 1 had the side 1 in its day, and berth 3 too.
        x.come(60);
        x.come(70);
        lie("berths begun anew", x, new int[] {2, 0, 4, 5}, new int[] {0, 0, 0, 0});
        SnoringDukes y = four();
        y.leave();
        check.due("come(99)", y.come(99), 4);
        check.due("berthOf(4), who rises nowhere", y.berthOf(4), 3);
        check.due("sideOf(3), which was 1 before", y.sideOf(3), 0);
    }

    private static void sideAboveAGoneBerthStays() {
        SnoringDukes x = new SnoringDukes();
        x.coach(4, 30, 990);
        check.due("leave() of a coach", x.leave(), 3);
        // Berth 3 is gone, 1 is flipped back by its change, 2 stays flipped although nothing is below it.
        lie("three of a coach", x, new int[] {2, 1, 0}, new int[] {0, 0, 1});
        check.due("come(25)", x.come(25), 4);
        check.due("elder of 3, right of 1", x.elderOf(3), 1);
        check.due("come(40), to berth 4", x.come(40), 5);
        check.due("the side of 2, above berth 4", x.sideOf(2), 0);
    }

    /** Promise 5. */
    private static void hush() {
        SnoringDukes x = four();
        check.due("hush to the same", x.hush(0, 50), 3);
        cost("hush to the same", x, 5, 3);
        check.due("hush to as loud as the elder", x.hush(0, 20), 3);
        cost("hush to as loud as the elder", x, 6, 3);
        check.due("loudness of the hushed", x.loudnessIn(3), 20);
        check.due("hush over two elders", x.hush(2, 0), 0);
        lie("hush over two elders", x, new int[] {2, 3, 1, 0}, new int[] {0, 0, 1, 1});
        cost("hush over two elders", x, 8, 5);
        check.due("hush of the quietest", x.hush(2, 0), 0);
        cost("hush of the quietest compares nothing", x, 8, 5);
        check.dueThrow("hush below 0", ARGUMENT, () -> x.hush(1, -1));
        check.dueThrow("hush above what he has", ARGUMENT, () -> x.hush(1, 31));
        check.dueThrow("hush far below", ARGUMENT, () -> x.hush(1, Integer.MIN_VALUE));
        check.dueThrow("hush far above", ARGUMENT, () -> x.hush(1, Integer.MAX_VALUE));
        x.leave();
        check.dueThrow("hush of one who has left", INDEX, () -> x.hush(2, 0));
        check.dueThrow("hush of one who has not come", INDEX, () -> x.hush(4, 0));
        for (int duke : NEVER_A_NUMBER) {
            check.dueThrow("hush(" + duke + ", -1)", INDEX, () -> x.hush(duke, -1));
        }
    }

    /** Promise 6. */
    private static void fetch() {
        SnoringDukes x = four();
        check.due("fetch(2)", x.fetch(2), 4);
        lie("fetched", x, new int[] {3, 1, 0}, new int[] {0, 1, 0});
        cost("fetched", x, 8, 7);
        check.due("berthOf the fetched", x.berthOf(2), -1);
        check.dueThrow("fetch(2) again", INDEX, () -> x.fetch(2));
        check.due("fetch of the quietest", x.fetch(3), 1);
        check.due("fetch of one of two", x.fetch(0), 1);
        check.due("fetch of the last one", x.fetch(1), 0);
        check.due("nobody is left", x.dukes(), 0);
        for (int duke : NEVER_A_NUMBER) {
            check.dueThrow("fetch(" + duke + ")", INDEX, () -> four().fetch(duke));
        }
        SnoringDukes still = new SnoringDukes();
        still.come(0);
        still.come(0);
        check.due("fetch of one of two, both at 0", still.fetch(1), 1);
        cost("even among those at 0 his join is a change", still, 2, 1);
        check.due("who stays", still.quietest(), 0);
    }

    /** Promises 7 and 8. */
    private static void dukesAndQuietest() {
        SnoringDukes x = four();
        check.due("dukes()", x.dukes(), 4);
        check.due("quietest()", x.quietest(), 3);
        x.come(20);
        check.due("dukes(), five", x.dukes(), 5);
        check.due("quietest(), as loud does not take his berth", x.quietest(), 3);
        x.leave();
        check.due("dukes(), one has left", x.dukes(), 4);
        check.due("quietest(), one has left", x.quietest(), 4);
        check.due("dukes() at the most", fullHouse().dukes(), 63);
    }

    private static SnoringDukes fullHouse() {
        SnoringDukes x = coaches(3);
        x.coach(3, 500, 100);
        return x;
    }

    /** Promise 9. */
    private static void berthOf() {
        SnoringDukes x = four();
        for (int duke : NEVER_A_NUMBER) {
            check.due("berthOf(" + duke + ")", x.berthOf(duke), -1);
        }
        check.due("berthOf(3)", x.berthOf(3), 0);
        check.due("berthOf(0)", x.berthOf(0), 3);
        check.due("berthOf(4), who has not come", x.berthOf(4), -1);
        x.leave();
        check.due("berthOf(3), who has left", x.berthOf(3), -1);
        check.due("berthOf(0) of nobody", new SnoringDukes().berthOf(0), -1);
    }

    /** Promises 10 to 14. */
    private static void whatABerthTells() {
        SnoringDukes x = four();
        int[] dukes = {3, 1, 2, 0};
        int[] loudness = {20, 30, 40, 50};
        int[] sides = {0, 1, 0, 1};
        int[] elders = {-1, 0, 1, 0};
        int[] followers = {2, 1, 0, 0};
        for (int berth = 0; berth < 4; berth++) {
            check.due("dukeIn(" + berth + ")", x.dukeIn(berth), dukes[berth]);
            check.due("loudnessIn(" + berth + ")", x.loudnessIn(berth), loudness[berth]);
            check.due("sideOf(" + berth + ")", x.sideOf(berth), sides[berth]);
            check.due("elderOf(" + berth + ")", x.elderOf(berth), elders[berth]);
            check.due("followersOf(" + berth + ")", x.followersOf(berth), followers[berth]);
        }
        noSuchBerth(x, 4);
        x.leave();
        noSuchBerth(x, 3);
        noSuchBerth(new SnoringDukes(), 0);
        for (int berth : NEVER_A_NUMBER) {
            noSuchBerth(x, berth);
            noSuchBerth(fullHouse(), berth);
        }
        unflippedFullHouse();
    }

    private static void noSuchBerth(SnoringDukes x, int berth) {
        check.dueThrow("no dukeIn(" + berth + ")", INDEX, () -> x.dukeIn(berth));
        check.dueThrow("no loudnessIn(" + berth + ")", INDEX, () -> x.loudnessIn(berth));
        check.dueThrow("no sideOf(" + berth + ")", INDEX, () -> x.sideOf(berth));
        check.dueThrow("no elderOf(" + berth + ")", INDEX, () -> x.elderOf(berth));
        check.dueThrow("no followersOf(" + berth + ")", INDEX, () -> x.followersOf(berth));
    }

    /** With all sides 0 the berths 1, 2, 4, .. 32 follow 0, and an odd berth follows the one directly above. */
    private static void unflippedFullHouse() {
        SnoringDukes x = new SnoringDukes();
        for (int come = 0; come < 63; come++) {
            x.come(10 * come);
        }
        check.due("full house: followersOf(0)", x.followersOf(0), 6);
        check.due("full house: followersOf(1)", x.followersOf(1), 5);
        check.due("full house: followersOf(31)", x.followersOf(31), 0);
        check.due("full house: elderOf(32)", x.elderOf(32), 0);
        check.due("full house: elderOf(48)", x.elderOf(48), 1);
        check.due("full house: elderOf(61)", x.elderOf(61), 30);
        check.due("full house: elderOf(62)", x.elderOf(62), 15);
        check.due("full house: flipped()", x.flipped(), 0);
    }

    /** Promise 15. */
    private static void flipped() {
        SnoringDukes x = four();
        check.due("flipped()", x.flipped(), 2);
        x.leave();
        check.due("flipped(), the gone berth is not counted", x.flipped(), 0);
        SnoringDukes coach = new SnoringDukes();
        coach.coach(4, 30, 990);
        check.due("flipped() of a coach", coach.flipped(), 3);
        coach.coach(1, 999, 0);
        check.due("flipped() of a second coach", coach.flipped(), 0);
    }

    /** Promises 16 and 17, beside what the calls above cost. */
    private static void comparisonsAndChanges() {
        SnoringDukes x = four();
        cost("asked once", x, 4, 3);
        cost("asked twice", x, 4, 3);
        for (int number = 0; number < 4; number++) {
            x.leavesAt(number);
            x.quieterThan(number);
            x.elderOf(number);
            x.followersOf(number);
        }
        x.comparisonsToEmpty();
        cost("asking counts nothing", x, 4, 3);
        lie("asking changes nothing", x, new int[] {3, 1, 2, 0}, new int[] {0, 1, 0, 1});
    }

    /** Promise 18. */
    private static void comparisonsToEmpty() {
        SnoringDukes x = four();
        check.due("comparisonsToEmpty()", x.comparisonsToEmpty(), 2);
        check.due("comparisonsToEmpty() again", x.comparisonsToEmpty(), 2);
        x.leave();
        check.due("comparisonsToEmpty() of three", x.comparisonsToEmpty(), 1);
        x.leave();
        check.due("comparisonsToEmpty() of two", x.comparisonsToEmpty(), 0);
        SnoringDukes full = fullHouse();
        int told = full.comparisonsToEmpty();
        int before = full.comparisons();
        for (int i = 0; i < 63; i++) {
            full.leave();
        }
        check.due("comparisonsToEmpty() of 63, as they really leave", told, full.comparisons() - before);
    }

    /** Promise 19. */
    private static void leavesAt() {
        SnoringDukes x = four();
        check.due("leavesAt(0)", x.leavesAt(0), 3);
        check.due("leavesAt(3)", x.leavesAt(3), 0);
        check.due("leavesAt(2)", x.leavesAt(2), 2);
        check.due("leavesAt(1)", x.leavesAt(1), 1);
        check.dueThrow("leavesAt(4)", INDEX, () -> x.leavesAt(4));
        for (int place : NEVER_A_NUMBER) {
            check.dueThrow("leavesAt(" + place + ")", INDEX, () -> x.leavesAt(place));
            check.dueThrow("leavesAt(" + place + ") of 63", INDEX, () -> fullHouse().leavesAt(place));
        }
        check.dueThrow("leavesAt(0) of nobody", INDEX, () -> new SnoringDukes().leavesAt(0));
        SnoringDukes full = fullHouse();
        int[] told = new int[63];
        for (int place = 0; place < 63; place++) {
            told[place] = full.leavesAt(place);
        }
        for (int place = 0; place < 63; place++) {
            check.due("leavesAt(" + place + ") of 63, as they really leave", told[place], full.leave());
        }
    }

    /** Promise 20. */
    private static void quieterThan() {
        SnoringDukes x = four();
        check.due("quieterThan(0)", x.quieterThan(0), 3);
        check.due("quieterThan(1)", x.quieterThan(1), 1);
        check.due("quieterThan(2)", x.quieterThan(2), 2);
        check.due("quieterThan(3)", x.quieterThan(3), 0);
        x.come(30);
        check.due("quieterThan(4), as loud as 1", x.quieterThan(4), 1);
        check.due("quieterThan(1), as loud as 4", x.quieterThan(1), 1);
        check.due("quieterThan(2), five", x.quieterThan(2), 3);
        check.dueThrow("quieterThan(5), who has not come", INDEX, () -> x.quieterThan(5));
        x.leave();
        check.dueThrow("quieterThan(3), who has left", INDEX, () -> x.quieterThan(3));
        for (int duke : NEVER_A_NUMBER) {
            check.dueThrow("quieterThan(" + duke + ")", INDEX, () -> x.quieterThan(duke));
        }
        SnoringDukes full = new SnoringDukes();
        for (int come = 0; come < 63; come++) {
            full.come(999 - 10 * come);
        }
        check.due("quieterThan(0) of 63", full.quieterThan(0), 62);
        check.due("quieterThan(62) of 63", full.quieterThan(62), 0);
    }

    private static void whatThrowsChangesNothing() {
        SnoringDukes x = four();
        check.dueThrow("come(1000)", ARGUMENT, () -> x.come(1000));
        check.dueThrow("coach(21, 0, 0)", ARGUMENT, () -> x.coach(21, 0, 0));
        check.dueThrow("hush(0, 51)", ARGUMENT, () -> x.hush(0, 51));
        check.dueThrow("hush(4, 0)", INDEX, () -> x.hush(4, 0));
        check.dueThrow("fetch(4)", INDEX, () -> x.fetch(4));
        lie("after what threw", x, new int[] {3, 1, 2, 0}, new int[] {0, 1, 0, 1});
        cost("after what threw", x, 4, 3);
        check.due("after what threw: the next number", x.come(0), 4);
        SnoringDukes full = fullHouse();
        int before = full.comparisons();
        check.dueThrow("the 64th", STATE, () -> full.come(0));
        check.dueThrow("a coach for the 64th", STATE, () -> full.coach(1, 0, 0));
        check.due("comparisons of a full house", full.comparisons(), before);
        full.leave();
        check.due("the next number of a full house", full.come(0), 63);
    }
}
