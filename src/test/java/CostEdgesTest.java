/** Promises 16 to 20: each sentence that names a boundary case has a test of its own. */
public final class CostEdgesTest {
    private static final int[] NO_PLACE_EVER = {-1, -2, 63, 64, 500, Integer.MIN_VALUE, Integer.MAX_VALUE};
    private static final int[] NO_NUMBER_EVER = {-1, -2, 500, 501, Integer.MIN_VALUE, Integer.MAX_VALUE};

    private static final Check check = new Check("CostEdgesTest");

    public static void main(String[] args) {
        nothingIsCountedAtFirst();
        comparisonsWithoutAChange();
        whatWasCountedStaysWhenAllHaveLeft();
        whatIsRefusedIsNotCounted();
        toEmptyNobodyOneOrTwo();
        toEmptyThree();
        toEmptyAsTheyReallyLeave();
        toEmptyIsAskedAgain();
        toEmptyChangesAndCountsNothing();
        leavesAtTheFirstAndTheLastPlace();
        leavesAtNoSuchPlace();
        leavesAtAsTheyReallyLeave();
        leavesAtChangesAndCountsNothing();
        leavesAtAndToEmptyInTurn();
        quieterThanTheQuietestAndTheLoudest();
        quieterThanTheEquallyLoud();
        quieterThanAfterAHush();
        quieterThanWhoDoesNotLieHere();
        quieterThanBelowAnElderWhoIsNotQuieter();
        noQuestionChangesAnything();
        check.end();
    }

    /** Promises 16 and 17: "so far": nothing, at first, and until two are compared. */
    private static void nothingIsCountedAtFirst() {
        check.dueCost("nobody", House.NOBODY.make(), 0, 0);
        check.dueCost("one", House.ONE.make(), 0, 0);
    }

    /** Promise 17: a comparison is "a change, if they change berths". */
    private static void comparisonsWithoutAChange() {
        SnoringDukes x = House.TWO.make();
        check.dueCost("two", x, 1, 0);
        x.hush(1, 500);
        check.dueCost("two, hushed to as loud", x, 2, 0);
        x.hush(1, 499);
        check.dueCost("two, hushed to quieter", x, 3, 1);
    }

    /** Promises 16 and 17: "so far", even when nobody lies here any more. */
    private static void whatWasCountedStaysWhenAllHaveLeft() {
        check.dueCost("emptied", House.EMPTIED.make(), 6, 4);
        SnoringDukes x = House.EMPTIED.make();
        x.coach(4, 30, 990);
        check.dueCost("emptied, and a coach of four", x, 9, 7);
    }

    private static void whatIsRefusedIsNotCounted() {
        SnoringDukes x = House.FULL.make();
        int comparisons = x.comparisons();
        int changes = x.changes();
        check.dueThrow("63 lie: come(0)", Check.STATE, () -> x.come(0));
        check.dueThrow("63 lie: coach(1, 0, 0)", Check.STATE, () -> x.coach(1, 0, 0));
        check.dueThrow("63 lie: hush(63, 0)", Check.INDEX, () -> x.hush(63, 0));
        check.dueThrow("63 lie: hush(62, 1000)", Check.ARGUMENT, () -> x.hush(62, 1000));
        check.dueThrow("63 lie: fetch(63)", Check.INDEX, () -> x.fetch(63));
        check.dueThrow("63 lie: leavesAt(63)", Check.INDEX, () -> x.leavesAt(63));
        check.dueThrow("63 lie: quieterThan(63)", Check.INDEX, () -> x.quieterThan(63));
        check.dueCost("63 lie, after what was refused", x, comparisons, changes);
    }

    /** Promise 18: with one left, or none, nothing is joined. */
    private static void toEmptyNobodyOneOrTwo() {
        check.due("nobody: comparisonsToEmpty()", House.NOBODY.make().comparisonsToEmpty(), 0);
        check.due("emptied: comparisonsToEmpty()", House.EMPTIED.make().comparisonsToEmpty(), 0);
        check.due("one: comparisonsToEmpty()", House.ONE.make().comparisonsToEmpty(), 0);
        check.due("two: comparisonsToEmpty()", House.TWO.make().comparisonsToEmpty(), 0);
    }

    /** Promise 18: one join when the first of three leaves. */
    private static void toEmptyThree() {
        SnoringDukes x = House.TWO.make();
        x.come(900);
        check.due("three: comparisonsToEmpty()", x.comparisonsToEmpty(), 1);
        check.due("four: comparisonsToEmpty()", House.FOUR.make().comparisonsToEmpty(), 2);
        // Over the flipped 1 by the berths 3 and 1, then over the unflipped 1 by 2 and 1, then by 1 alone.
        check.due("five: comparisonsToEmpty()", House.FIVE_WITH_FLIPS.make().comparisonsToEmpty(), 5);
    }

    /** Promise 18: "if all dukes left one after the other". */
    private static void toEmptyAsTheyReallyLeave() {
        for (House house : House.all()) {
            // A house needs up to 466 of the 512 calls, so no more than 35 leave here.
            SnoringDukes x = house.make();
            int told = x.comparisonsToEmpty();
            int before = x.comparisons();
            int leaving = Math.min(x.dukes(), 35);
            for (int i = 0; i < leaving; i++) {
                x.leave();
            }
            check.due(house.name + ": comparisonsToEmpty() after " + leaving + " have left",
                x.comparisonsToEmpty(), told - (x.comparisons() - before));
        }
        SnoringDukes full = House.FULL.make();
        int told = full.comparisonsToEmpty();
        int before = full.comparisons();
        for (int i = 0; i < 63; i++) {
            full.leave();
        }
        check.due("63 lie: comparisonsToEmpty()", told, full.comparisons() - before);
        check.due("63 have left: comparisonsToEmpty()", full.comparisonsToEmpty(), 0);
    }

    /** Promise 18: nothing of one asking is left over for the next one. */
    private static void toEmptyIsAskedAgain() {
        SnoringDukes x = House.FULL.make();
        int told = x.comparisonsToEmpty();
        check.due("63 lie: comparisonsToEmpty() again", x.comparisonsToEmpty(), told);
        SnoringDukes few = House.FOUR.make();
        check.due("four: comparisonsToEmpty()", few.comparisonsToEmpty(), 2);
        few.leave();
        check.due("four, and one has left: comparisonsToEmpty()", few.comparisonsToEmpty(), 1);
        few.come(999);
        few.come(999);
        few.leave();
        few.leave();
        few.leave();
        check.due("two are left: comparisonsToEmpty()", few.comparisonsToEmpty(), 0);
    }

    /** Promise 18: "Nothing is changed, and nothing is counted." */
    private static void toEmptyChangesAndCountsNothing() {
        for (House house : House.all()) {
            check.dueUnchanged(house, "comparisonsToEmpty()", SnoringDukes::comparisonsToEmpty);
        }
    }

    /** Promise 19: "place: 0 for the first one"; the last place is one below their number. */
    private static void leavesAtTheFirstAndTheLastPlace() {
        check.due("one: leavesAt(0)", House.ONE.make().leavesAt(0), 0);
        SnoringDukes four = House.FOUR.make();
        int[] order = {3, 1, 2, 0};
        for (int place = 0; place < 4; place++) {
            check.due("four: leavesAt(" + place + ")", four.leavesAt(place), order[place]);
        }
        SnoringDukes alike = new SnoringDukes();
        alike.coach(3, 5, 0);
        int[] alikeOrder = {0, 2, 1};
        for (int place = 0; place < 3; place++) {
            check.due("three alike: leavesAt(" + place + ")", alike.leavesAt(place), alikeOrder[place]);
        }
        SnoringDukes full = new SnoringDukes();
        for (int come = 0; come < 63; come++) {
            full.come(999 - 10 * come);
        }
        check.due("63 lie: leavesAt(0)", full.leavesAt(0), 62);
        check.due("63 lie: leavesAt(1)", full.leavesAt(1), 61);
        check.due("63 lie: leavesAt(61)", full.leavesAt(61), 1);
        check.due("63 lie: leavesAt(62)", full.leavesAt(62), 0);
    }

    /** Promise 19: "Throws IndexOutOfBoundsException if there is no such place". */
    private static void leavesAtNoSuchPlace() {
        for (House house : House.all()) {
            int dukes = house.make().dukes();
            check.dueRefusal(house, "leavesAt(" + dukes + ")", Check.INDEX, x -> x.leavesAt(dukes));
        }
        for (int place : NO_PLACE_EVER) {
            check.dueRefusal(House.NOBODY, "leavesAt(" + place + ")", Check.INDEX, x -> x.leavesAt(place));
            check.dueRefusal(House.FIVE_WITH_FLIPS, "leavesAt(" + place + ")", Check.INDEX, x -> x.leavesAt(place));
            check.dueRefusal(House.FULL, "leavesAt(" + place + ")", Check.INDEX, x -> x.leavesAt(place));
        }
    }

    /** Promise 19: "if all left one after the other". */
    private static void leavesAtAsTheyReallyLeave() {
        House[] small = {
            House.FOUR, House.THREE_HAS_LEFT, House.TWO_WAS_FETCHED, House.FIVE_WITH_FLIPS, House.SIXTY_TWO, House.FULL,
        };
        for (House house : small) {
            SnoringDukes x = house.make();
            int[] told = new int[x.dukes()];
            for (int place = 0; place < told.length; place++) {
                told[place] = x.leavesAt(place);
            }
            for (int place = 0; place < told.length; place++) {
                check.due(house.name + ": leavesAt(" + place + ")", told[place], x.leave());
            }
        }
    }

    /** Promise 19: "Nothing is changed, and nothing is counted." */
    private static void leavesAtChangesAndCountsNothing() {
        for (House house : House.all()) {
            int dukes = house.make().dukes();
            for (int place = 0; place < dukes; place++) {
                int at = place;
                check.dueUnchanged(house, "leavesAt(" + at + ")", x -> x.leavesAt(at));
            }
        }
    }

    /** Promises 18 and 19: neither leaves anything over for the other, whatever comes between. */
    private static void leavesAtAndToEmptyInTurn() {
        SnoringDukes x = House.FIVE_WITH_FLIPS.make();
        check.due("five: leavesAt(4)", x.leavesAt(4), 4);
        check.due("five: comparisonsToEmpty()", x.comparisonsToEmpty(), 5);
        check.due("five: leavesAt(0)", x.leavesAt(0), 1);
        check.dueThrow("five: leavesAt(5)", Check.INDEX, () -> x.leavesAt(5));
        check.due("five: comparisonsToEmpty() again", x.comparisonsToEmpty(), 5);
        check.due("five: leavesAt(4) again", x.leavesAt(4), 4);
        check.dueCost("five", x, 4, 2);
        x.hush(4, 0);
        check.due("five, one hushed: leavesAt(0), as loud stays below", x.leavesAt(0), 1);
        check.due("five, one hushed: leavesAt(1)", x.leavesAt(1), 4);
        x.fetch(1);
        check.due("1 was fetched: leavesAt(0)", x.leavesAt(0), 4);
        check.due("1 was fetched: leavesAt(3)", x.leavesAt(3), 0);
    }

    /** Promise 20: none, and all the others. */
    private static void quieterThanTheQuietestAndTheLoudest() {
        check.due("one: quieterThan(0)", House.ONE.make().quieterThan(0), 0);
        SnoringDukes four = House.FOUR.make();
        int[] quieter = {3, 1, 2, 0};
        for (int duke = 0; duke < 4; duke++) {
            check.due("four: quieterThan(" + duke + ")", four.quieterThan(duke), quieter[duke]);
        }
        SnoringDukes full = new SnoringDukes();
        for (int come = 0; come < 63; come++) {
            full.come(999 - come);
        }
        for (int duke = 0; duke < 63; duke++) {
            check.due("63 lie: quieterThan(" + duke + ")", full.quieterThan(duke), 62 - duke);
        }
        SnoringDukes ends = new SnoringDukes();
        ends.come(999);
        ends.come(0);
        check.due("0 and 999: quieterThan(0)", ends.quieterThan(0), 1);
        check.due("0 and 999: quieterThan(1)", ends.quieterThan(1), 0);
    }

    /** Promise 20: "quieter than one": as loud is not quieter, he himself is not. */
    private static void quieterThanTheEquallyLoud() {
        SnoringDukes alike = new SnoringDukes();
        alike.coach(20, 0, 0);
        SnoringDukes two = new SnoringDukes();
        two.coach(20, 500, 500);
        for (int duke = 0; duke < 20; duke++) {
            check.due("20 at 0: quieterThan(" + duke + ")", alike.quieterThan(duke), 0);
            check.due("10 at 0, 10 at 500: quieterThan(" + duke + ")", two.quieterThan(duke), duke % 2 == 0 ? 10 : 0);
        }
        SnoringDukes byOne = House.ONE.make();
        byOne.come(501);
        check.due("500 and 501: quieterThan(0)", byOne.quieterThan(0), 0);
        check.due("500 and 501: quieterThan(1)", byOne.quieterThan(1), 1);
    }

    private static void quieterThanAfterAHush() {
        SnoringDukes x = House.FOUR.make();
        x.hush(0, 40);
        check.due("0 hushed to 40: quieterThan(0)", x.quieterThan(0), 2);
        check.due("0 hushed to 40: quieterThan(2), as loud", x.quieterThan(2), 2);
        x.hush(0, 39);
        check.due("0 hushed to 39: quieterThan(2)", x.quieterThan(2), 3);
        x.leave();
        check.due("3 has left: quieterThan(2)", x.quieterThan(2), 2);
    }

    /** Promise 20: "Throws IndexOutOfBoundsException if he does not lie here". */
    private static void quieterThanWhoDoesNotLieHere() {
        for (int duke : NO_NUMBER_EVER) {
            check.dueRefusal(House.NOBODY, "quieterThan(" + duke + ")", Check.INDEX, x -> x.quieterThan(duke));
            check.dueRefusal(House.FOUR, "quieterThan(" + duke + ")", Check.INDEX, x -> x.quieterThan(duke));
            check.dueRefusal(House.FULL_AND_USED_UP, "quieterThan(" + duke + ")", Check.INDEX, x -> x.quieterThan(duke));
        }
        check.dueRefusal(House.NOBODY, "quieterThan(0)", Check.INDEX, x -> x.quieterThan(0));
        check.dueRefusal(House.EMPTIED, "quieterThan(0)", Check.INDEX, x -> x.quieterThan(0));
        check.dueRefusal(House.FOUR, "quieterThan(4), not given", Check.INDEX, x -> x.quieterThan(4));
        check.dueRefusal(House.THREE_HAS_LEFT, "quieterThan(3)", Check.INDEX, x -> x.quieterThan(3));
        check.dueRefusal(House.TWO_WAS_FETCHED, "quieterThan(2)", Check.INDEX, x -> x.quieterThan(2));
        check.dueRefusal(House.FULL, "quieterThan(63), not given", Check.INDEX, x -> x.quieterThan(63));
        SnoringDukes used = House.ONE_NUMBER_LEFT.make();
        check.dueThrow("quieterThan(499), not given", Check.INDEX, () -> used.quieterThan(499));
        used.come(999);
        check.dueTrue("quieterThan(499), given", used.quieterThan(499) <= 60);
    }

    /** Promise 20: "only where somebody quieter can lie": below the flipped and the unflipped nobody is missed. */
    private static void quieterThanBelowAnElderWhoIsNotQuieter() {
        SnoringDukes five = House.FIVE_WITH_FLIPS.make();
        int[] quieter = {3, 0, 1, 2, 4};
        for (int duke = 0; duke < 5; duke++) {
            check.due("five: quieterThan(" + duke + ")", five.quieterThan(duke), quieter[duke]);
        }
        for (House house : House.all()) {
            int dukes = house.make().dukes();
            for (int berth = 0; berth < dukes; berth++) {
                SnoringDukes x = house.make();
                int duke = x.dukeIn(berth);
                check.due(house.name + ": quieterThan(" + duke + ")", x.quieterThan(duke), plainlyQuieter(house, berth));
            }
        }
    }

    private static int plainlyQuieter(House house, int berth) {
        int dukes = house.make().dukes();
        int limit = house.make().loudnessIn(berth);
        int quieter = 0;
        for (int other = 0; other < dukes; other++) {
            quieter += house.make().loudnessIn(other) < limit ? 1 : 0;
        }
        return quieter;
    }

    private static void noQuestionChangesAnything() {
        for (House house : House.all()) {
            check.dueUnchanged(house, "the questions", CostEdgesTest::askAll);
        }
    }

    /** At most 13 calls: the houses need up to 466 of the 512, and the telling after it 30. */
    private static int askAll(SnoringDukes x) {
        int sum = x.dukes() + x.quietest() + x.flipped() + x.comparisons() + x.changes();
        int last = x.dukes() - 1;
        if (last >= 0) {
            int duke = x.dukeIn(last);
            sum += x.loudnessIn(last) + x.sideOf(last) + x.elderOf(last) + x.followersOf(last);
            sum += x.berthOf(duke) + x.quieterThan(duke);
        }
        return sum;
    }
}
