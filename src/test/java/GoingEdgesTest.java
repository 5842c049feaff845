/** Promises 4 to 6: each sentence that names a boundary case has a test of its own. */
public final class GoingEdgesTest {
    private static final int[] NEVER_A_NUMBER = {-1, -2, 4, 63, 499, 500, 501, Integer.MIN_VALUE, Integer.MAX_VALUE};

    private static final Check check = new Check("GoingEdgesTest");

    public static void main(String[] args) {
        leaveRefusesIfNobodyLiesHere();
        leaveOfTheLastOneComparesNothing();
        leaveOfOneOfTwoComparesNothing();
        leaveOfOneOfThreeComparesOnce();
        leaveGoesToTheLeftAsLongAsABerthIsThere();
        leaveStopsWhereOnlyTheRightIsThere();
        leaveKeepsTheSideAboveTheGoneBerth();
        leaveAmongEquallyLoudOnes();
        leaveOfAFullHouse();
        hushRefusesWhoDoesNotLieHere();
        hushTakes0UpToWhatHeHas();
        hushRefusesBelow0AndAboveWhatHeHas();
        hushMeasuresAgainstTheLastHush();
        hushOfTheQuietestJoinsNothing();
        hushToTheSameLoudnessJoinsAllTheSame();
        hushTellsTheBerthThen();
        fetchRefusesWhoDoesNotLieHere();
        fetchOfTheOnlyOne();
        fetchOfTheQuietestDoesNotRise();
        fetchRisesByAChangeEvenAmongThoseAt0();
        fetchCountsBothRisingAndLeaving();
        fetchOfTheLastNumber();
        check.end();
    }

    /** Promise 4: "Throws IllegalStateException if nobody lies here". */
    private static void leaveRefusesIfNobodyLiesHere() {
        check.dueRefusal(House.NOBODY, "leave()", Check.STATE, SnoringDukes::leave);
        check.dueRefusal(House.EMPTIED, "leave()", Check.STATE, SnoringDukes::leave);
        House fetched = new House("the only one was fetched", GoingEdgesTest::onlyOneFetched);
        check.dueRefusal(fetched, "leave()", Check.STATE, SnoringDukes::leave);
    }

    private static SnoringDukes onlyOneFetched() {
        SnoringDukes x = House.ONE.make();
        x.fetch(0);
        return x;
    }

    /** The duke of the last berth is he himself, and nobody is left. */
    private static void leaveOfTheLastOneComparesNothing() {
        SnoringDukes x = House.ONE.make();
        check.due("one: leave()", x.leave(), 0);
        check.dueBerths("one: leave()", x, new int[0], new int[0]);
        check.dueCost("one: leave()", x, 0, 0);
        check.due("one: quietest() then", x.quietest(), -1);
        check.due("one: berthOf(0) then", x.berthOf(0), -1);
        check.dueThrow("one: dukeIn(0) then", Check.INDEX, () -> x.dukeIn(0));
    }

    /** "If more than one is left": one is not. */
    private static void leaveOfOneOfTwoComparesNothing() {
        SnoringDukes x = House.TWO.make();
        check.due("two: leave()", x.leave(), 0);
        check.dueBerths("two: leave()", x, new int[] {1}, new int[] {0});
        check.dueCost("two: leave()", x, 1, 0);
        SnoringDukes flipped = House.ONE.make();
        flipped.come(400);
        check.due("two, flipped: leave()", flipped.leave(), 1);
        check.dueBerths("two, flipped: leave()", flipped, new int[] {0}, new int[] {0});
        check.dueCost("two, flipped: leave()", flipped, 1, 1);
    }

    /** "If more than one is left": two are; only the berth 1 is there. */
    private static void leaveOfOneOfThreeComparesOnce() {
        SnoringDukes x = House.TWO.make();
        x.come(900);
        check.due("three: leave()", x.leave(), 0);
        check.dueBerths("three: leave()", x, new int[] {1, 2}, new int[] {0, 1});
        check.dueCost("three: leave()", x, 3, 1);
    }

    /** "Go to the left as long as a berth is there; then, from that berth on .. up to the berth 1". */
    private static void leaveGoesToTheLeftAsLongAsABerthIsThere() {
        SnoringDukes x = House.TWO.make();
        x.come(900);
        x.come(950);
        // 950 comes to the top; 900 in berth 2 rises over him, then 700 in berth 1 over 900.
        check.due("four: leave()", x.leave(), 0);
        check.dueBerths("four: leave()", x, new int[] {1, 2, 3}, new int[] {0, 1, 1});
        check.dueCost("four: leave()", x, 5, 2);
    }

    /** The berth 2, to the right of the flipped 1, is there, but not 3 to its left. */
    private static void leaveStopsWhereOnlyTheRightIsThere() {
        SnoringDukes x = House.FOUR.make();
        check.due("four, flipped: leave()", x.leave(), 3);
        check.dueBerths("four, flipped: leave()", x, new int[] {1, 0, 2}, new int[3]);
        check.dueCost("four, flipped: leave()", x, 5, 4);
    }

    /** "That berth is gone": nothing is said of the side of the berth directly above. */
    private static void leaveKeepsTheSideAboveTheGoneBerth() {
        SnoringDukes x = House.FIVE_WITH_FLIPS.make();
        check.due("five: leave()", x.leave(), 1);
        check.dueBerths("five: leave()", x, new int[] {2, 3, 0, 4}, new int[] {0, 0, 1, 1});
        check.dueCost("five: leave()", x, 6, 4);
    }

    /** As loud is not quieter: who came to the top from the last berth stays there, and leaves next. */
    private static void leaveAmongEquallyLoudOnes() {
        SnoringDukes x = new SnoringDukes();
        x.come(5);
        x.come(5);
        x.come(5);
        check.due("as loud: the first who leaves", x.leave(), 0);
        check.due("as loud: the second who leaves", x.leave(), 2);
        check.due("as loud: the third who leaves", x.leave(), 1);
        check.dueCost("as loud", x, 3, 0);
    }

    /** The last berth is 62; the way to the left is 1, 2, 4, 8, 16, 32, as nothing is flipped. */
    private static void leaveOfAFullHouse() {
        SnoringDukes x = new SnoringDukes();
        for (int come = 0; come < 63; come++) {
            x.come(10 * come);
        }
        check.dueCost("unflipped 63", x, 62, 0);
        check.due("unflipped 63: leave()", x.leave(), 0);
        check.due("unflipped 63: dukes() then", x.dukes(), 62);
        // 620 comes to the top, and each on the way rises over the one before him.
        check.dueCost("unflipped 63: leave()", x, 68, 6);
        check.due("unflipped 63: flipped() then", x.flipped(), 6);
        check.due("unflipped 63: berthOf(62) then", x.berthOf(62), 32);
        check.due("unflipped 63: quietest() then", x.quietest(), 1);
        check.dueThrow("unflipped 63: dukeIn(62) then", Check.INDEX, () -> x.dukeIn(62));
    }

    /** Promise 5: "Throws IndexOutOfBoundsException if he does not lie here", listed first: whatever the loudness. */
    private static void hushRefusesWhoDoesNotLieHere() {
        for (int duke : NEVER_A_NUMBER) {
            check.dueRefusal(House.FOUR, "hush(" + duke + ", 0)", Check.INDEX, x -> x.hush(duke, 0));
        }
        check.dueRefusal(House.NOBODY, "hush(0, 0)", Check.INDEX, x -> x.hush(0, 0));
        check.dueRefusal(House.EMPTIED, "hush(3, 0)", Check.INDEX, x -> x.hush(3, 0));
        check.dueRefusal(House.THREE_HAS_LEFT, "hush(3, 0)", Check.INDEX, x -> x.hush(3, 0));
        check.dueRefusal(House.TWO_WAS_FETCHED, "hush(2, 0)", Check.INDEX, x -> x.hush(2, 0));
        check.dueRefusal(House.FULL, "hush(63, 0)", Check.INDEX, x -> x.hush(63, 0));
        check.dueRefusal(House.USED_UP, "hush(500, 0)", Check.INDEX, x -> x.hush(500, 0));
        check.dueRefusal(House.FOUR, "hush(4, -1)", Check.INDEX, x -> x.hush(4, -1));
        check.dueRefusal(House.FOUR, "hush(-1, 1000)", Check.INDEX, x -> x.hush(-1, 1000));
    }

    /** Promise 5: "loudness: 0 up to what he has": both ends are within. */
    private static void hushTakes0UpToWhatHeHas() {
        SnoringDukes x = House.TWO.make();
        check.due("hush(1, 700), what he has", x.hush(1, 700), 1);
        check.due("loudnessIn(1)", x.loudnessIn(1), 700);
        check.due("hush(1, 699)", x.hush(1, 699), 1);
        check.due("loudnessIn(1), hushed", x.loudnessIn(1), 699);
        check.due("hush(1, 0)", x.hush(1, 0), 0);
        check.due("loudnessIn(0), hushed", x.loudnessIn(0), 0);
        check.due("hush(1, 0), what he has", x.hush(1, 0), 0);
        check.dueCost("hushed", x, 4, 1);
        SnoringDukes loudest = new SnoringDukes();
        loudest.come(999);
        check.due("hush(0, 999), what he has", loudest.hush(0, 999), 0);
        check.due("loudnessIn(0), at the loudest", loudest.loudnessIn(0), 999);
    }

    /** Promise 5: "Throws IllegalArgumentException if loudness is below 0, or above what he has". */
    private static void hushRefusesBelow0AndAboveWhatHeHas() {
        for (int loudness : new int[] {-1, 51, 999, 1000, Integer.MIN_VALUE, Integer.MAX_VALUE}) {
            check.dueRefusal(House.FOUR, "hush(0, " + loudness + ")", Check.ARGUMENT, x -> x.hush(0, loudness));
        }
        check.dueRefusal(House.FOUR, "hush(3, 21), the quietest", Check.ARGUMENT, x -> x.hush(3, 21));
        check.dueRefusal(House.FOUR, "hush(3, -1), the quietest", Check.ARGUMENT, x -> x.hush(3, -1));
        House silent = new House("one at 0, one at 999", GoingEdgesTest::silentAndLoudest);
        check.dueRefusal(silent, "hush(0, 1)", Check.ARGUMENT, x -> x.hush(0, 1));
        check.dueRefusal(silent, "hush(1, 1000)", Check.ARGUMENT, x -> x.hush(1, 1000));
    }

    private static SnoringDukes silentAndLoudest() {
        SnoringDukes x = new SnoringDukes();
        x.come(0);
        x.come(999);
        return x;
    }

    /** "What he has" is what the last hush gave him. */
    private static void hushMeasuresAgainstTheLastHush() {
        House hushed = new House("0 was hushed to 30", GoingEdgesTest::zeroHushed);
        check.dueRefusal(hushed, "hush(0, 31)", Check.ARGUMENT, x -> x.hush(0, 31));
        check.dueRefusal(hushed, "hush(0, 50)", Check.ARGUMENT, x -> x.hush(0, 50));
        check.due("hush(0, 30)", hushed.make().hush(0, 30), 3);
    }

    private static SnoringDukes zeroHushed() {
        SnoringDukes x = House.FOUR.make();
        x.hush(0, 30);
        return x;
    }

    /** From berth 0 nobody rises. */
    private static void hushOfTheQuietestJoinsNothing() {
        SnoringDukes x = House.FOUR.make();
        check.due("hush(3, 0)", x.hush(3, 0), 0);
        check.due("loudnessIn(0)", x.loudnessIn(0), 0);
        check.dueCost("hush(3, 0)", x, 4, 3);
    }

    /** He rises, whether the loudness is another one or not: that is a comparison. */
    private static void hushToTheSameLoudnessJoinsAllTheSame() {
        SnoringDukes x = House.FOUR.make();
        check.due("hush(2, 40)", x.hush(2, 40), 2);
        check.dueCost("hush(2, 40)", x, 5, 3);
        check.dueBerths("hush(2, 40)", x, new int[] {3, 1, 2, 0}, new int[] {0, 1, 0, 1});
    }

    /** Promise 5: "the berth in which he lies then": where he lay, an elder's, the top. */
    private static void hushTellsTheBerthThen() {
        check.due("hush(2, 30), as loud as his elder", House.FOUR.make().hush(2, 30), 2);
        check.due("hush(2, 29), over one elder", House.FOUR.make().hush(2, 29), 1);
        check.due("hush(2, 20), as loud as the quietest", House.FOUR.make().hush(2, 20), 1);
        check.due("hush(2, 19), over both", House.FOUR.make().hush(2, 19), 0);
        SnoringDukes x = House.FOUR.make();
        x.hush(2, 29);
        check.dueBerths("hush(2, 29)", x, new int[] {3, 2, 1, 0}, new int[] {0, 1, 1, 1});
        check.dueCost("hush(2, 29)", x, 6, 4);
    }

    /** Promise 6: "Throws IndexOutOfBoundsException if he does not lie here". */
    private static void fetchRefusesWhoDoesNotLieHere() {
        for (int duke : NEVER_A_NUMBER) {
            check.dueRefusal(House.FOUR, "fetch(" + duke + ")", Check.INDEX, x -> x.fetch(duke));
        }
        check.dueRefusal(House.NOBODY, "fetch(0)", Check.INDEX, x -> x.fetch(0));
        check.dueRefusal(House.EMPTIED, "fetch(0)", Check.INDEX, x -> x.fetch(0));
        check.dueRefusal(House.THREE_HAS_LEFT, "fetch(3)", Check.INDEX, x -> x.fetch(3));
        check.dueRefusal(House.TWO_WAS_FETCHED, "fetch(2)", Check.INDEX, x -> x.fetch(2));
        check.dueRefusal(House.FULL, "fetch(63)", Check.INDEX, x -> x.fetch(63));
        check.dueRefusal(House.USED_UP, "fetch(500)", Check.INDEX, x -> x.fetch(500));
    }

    /** Nobody to rise over, nobody left. */
    private static void fetchOfTheOnlyOne() {
        SnoringDukes x = House.ONE.make();
        check.due("one: fetch(0)", x.fetch(0), 0);
        check.dueBerths("one: fetch(0)", x, new int[0], new int[0]);
        check.dueCost("one: fetch(0)", x, 0, 0);
        check.due("one: the next number", x.come(0), 1);
    }

    /** From berth 0 nobody rises: what it takes is the leaving. */
    private static void fetchOfTheQuietestDoesNotRise() {
        SnoringDukes two = House.TWO.make();
        check.due("two: fetch(0)", two.fetch(0), 0);
        check.dueBerths("two: fetch(0)", two, new int[] {1}, new int[] {0});
        check.dueCost("two: fetch(0)", two, 1, 0);
        SnoringDukes four = House.FOUR.make();
        check.due("four: fetch(3)", four.fetch(3), 1);
        check.dueBerths("four: fetch(3)", four, new int[] {1, 0, 2}, new int[3]);
        check.dueCost("four: fetch(3)", four, 5, 4);
    }

    /** Promise 6: "as if he was quieter than all others (so each join on his way is a comparison and a change)". */
    private static void fetchRisesByAChangeEvenAmongThoseAt0() {
        SnoringDukes x = new SnoringDukes();
        for (int come = 0; come < 4; come++) {
            x.come(0);
        }
        check.dueCost("four at 0", x, 3, 0);
        // 3 rises over 1 in berth 1 and 0 in berth 0; 1 comes back from berth 3, as loud as 0 in berth 1.
        check.due("four at 0: fetch(3)", x.fetch(3), 3);
        check.dueBerths("four at 0: fetch(3)", x, new int[] {1, 0, 2}, new int[] {0, 1, 0});
        check.dueCost("four at 0: fetch(3)", x, 6, 2);
        check.due("four at 0: loudnessIn(0)", x.loudnessIn(0), 0);
        check.due("four at 0: loudnessIn(1)", x.loudnessIn(1), 0);
    }

    /** Promise 6: "how many comparisons that took": by two elders to the top, then two joins of the berth 0. */
    private static void fetchCountsBothRisingAndLeaving() {
        SnoringDukes x = House.FOUR.make();
        // 2 rises over 1 and 3; 0 comes from berth 3 to the top, and joins with 2 (30) and 1 (20).
        check.due("four: fetch(2)", x.fetch(2), 4);
        check.dueBerths("four: fetch(2)", x, new int[] {3, 1, 0}, new int[] {0, 1, 0});
        check.dueCost("four: fetch(2)", x, 8, 7);
        SnoringDukes last = House.FOUR.make();
        // 0 rises over 3, who comes back to the top from berth 3, and stays over 1.
        check.due("four: fetch(0), who lies in the last berth", last.fetch(0), 2);
        check.dueBerths("four: fetch(0)", last, new int[] {3, 1, 2}, new int[] {0, 1, 0});
        check.dueCost("four: fetch(0)", last, 6, 4);
    }

    /** The number 499 can be fetched, once. */
    private static void fetchOfTheLastNumber() {
        SnoringDukes x = House.USED_UP.make();
        check.dueTrue("500 have come: 499 lies here", x.berthOf(499) >= 0);
        check.dueTrue("500 have come: fetch(499)", x.fetch(499) > 0);
        check.due("500 have come: berthOf(499) then", x.berthOf(499), -1);
        check.due("500 have come: dukes() then", x.dukes(), 59);
        check.dueThrow("500 have come: fetch(499) again", Check.INDEX, () -> x.fetch(499));
        check.dueThrow("500 have come: come(0) then", Check.STATE, () -> x.come(0));
    }
}
