/** The document's terms: each sentence that names a boundary case has a test of its own. */
public final class TermsEdgesTest {
    private static final Check check = new Check("TermsEdgesTest");

    public static void main(String[] args) {
        theElderNeedNotBeTheOneDirectlyAbove();
        the512thCallIsAnswered();
        berthsAreNumberedFrom0WithoutGaps();
        dukesAreNumberedFrom0AsTheyCome();
        aNumberIsNotUsedAgain();
        theLeftOfABerthGoesWithItsSide();
        theSideOfBerth0IsAlways0();
        theElderOfBerth1IsBerth0();
        nobodyIsQuieterThanTheOneInHisEldersBerth();
        joiningTheLouderIsAComparisonAlone();
        joiningTheEquallyLoudIsAComparisonAlone();
        joiningTheQuieterIsAChange();
        theSideBecomesTheOtherOneBothWays();
        risingFromBerth0JoinsNothing();
        risingStopsIfNothingChanges();
        risingGoesOnUpToBerth0();
        allComparisonsAreCounted();
        toLayAPileBeneathAnotherCostsOneComparison();
        oneObjectDoesNotMoveAnother();
        check.end();
    }

    /** 10, 20, .. 70 in the berths 0 to 6, all sides 0: six comparisons, no change. */
    private static SnoringDukes seven() {
        SnoringDukes x = new SnoringDukes();
        for (int loudness = 10; loudness <= 70; loudness += 10) {
            x.come(loudness);
        }
        check.dueBerths("seven", x, new int[] {0, 1, 2, 3, 4, 5, 6}, new int[7]);
        check.dueCost("seven", x, 6, 0);
        return x;
    }

    /** "No quieter than one single duke above, who need not be the one directly above", whom he may be quieter than. */
    private static void theElderNeedNotBeTheOneDirectlyAbove() {
        SnoringDukes x = new SnoringDukes();
        x.come(100);
        x.come(900);
        x.come(500);
        // Berth 2 is to the left of the unflipped 1, so 500 is held against 100, and stays below 900.
        check.dueBerths("500 directly below 900", x, new int[] {0, 1, 2}, new int[3]);
        check.dueCost("500 directly below 900", x, 2, 0);
        check.due("500 directly below 900: elderOf(2)", x.elderOf(2), 0);
        check.due("500 directly below 900: hush(2, 100), as loud as his elder", x.hush(2, 100), 2);
        check.due("500 directly below 900: hush(2, 99)", x.hush(2, 99), 0);
        check.dueBerths("99 has risen past 900", x, new int[] {2, 1, 0}, new int[] {0, 0, 1});
    }

    /** "An object is used for at most 512 calls": the last one of them is no other call than the first. */
    private static void the512thCallIsAnswered() {
        SnoringDukes x = House.FOUR.make();
        for (int call = 5; call < 511; call++) {
            check.due("call " + call + ": loudnessIn(1)", x.loudnessIn(1), 30);
        }
        check.due("call 511: come(10)", x.come(10), 4);
        check.due("call 512: quietest()", x.quietest(), 4);
        SnoringDukes y = House.FOUR.make();
        for (int call = 5; call < 512; call++) {
            check.due("call " + call + ": comparisonsToEmpty()", y.comparisonsToEmpty(), 2);
        }
        check.dueThrow("call 512: come(1000)", Check.ARGUMENT, () -> y.come(1000));
    }

    /** "Up to 63 dukes lie in berths, numbered from 0 without gaps." */
    private static void berthsAreNumberedFrom0WithoutGaps() {
        SnoringDukes x = new SnoringDukes();
        for (int come = 0; come < 63; come++) {
            x.come(999 - come);
            check.dueTrue("berth " + come + " is there", x.loudnessIn(come) >= 999 - come);
            check.dueThrow("the berth after " + come, Check.INDEX, () -> x.dukeIn(x.dukes()));
        }
        for (int left = 62; left >= 0; left--) {
            x.leave();
            check.due("dukes() when " + left + " are left", x.dukes(), left);
            check.dueThrow("the berth after the last of " + left, Check.INDEX, () -> x.dukeIn(x.dukes()));
        }
    }

    /** "Dukes are numbered from 0 as they come", be it alone or with a coach. */
    private static void dukesAreNumberedFrom0AsTheyCome() {
        SnoringDukes x = new SnoringDukes();
        check.due("the first one", x.come(900), 0);
        check.due("the second one, quieter", x.come(100), 1);
        x.coach(3, 500, 100);
        check.due("the first one of a coach is 2", x.loudnessIn(x.berthOf(2)), 500);
        check.due("the last one of a coach is 4", x.loudnessIn(x.berthOf(4)), 700);
        check.due("the next one after a coach of 3", x.come(0), 5);
    }

    /** "A number is not used again", whether its duke has left or was fetched. */
    private static void aNumberIsNotUsedAgain() {
        check.due("who comes when all four have left", House.EMPTIED.make().come(0), 4);
        check.due("who comes when 3 has left", House.THREE_HAS_LEFT.make().come(0), 4);
        check.due("who comes when 2 was fetched", House.TWO_WAS_FETCHED.make().come(0), 4);
        SnoringDukes x = House.EMPTIED.make();
        x.coach(1, 0, 0);
        check.due("who comes by coach when all four have left", x.quietest(), 4);
    }

    /** "To the left of the berth i lies the berth 2i and its side, together, to the right 2i + 1, less its side." */
    private static void theLeftOfABerthGoesWithItsSide() {
        SnoringDukes flat = seven();
        check.due("unflipped 1: elder of 2, to its left", flat.elderOf(2), 0);
        check.due("unflipped 1: elder of 3, to its right", flat.elderOf(3), 1);
        check.due("unflipped 2: elder of 4, to its left, and 2 to the left of 1", flat.elderOf(4), 0);
        check.due("unflipped 2: elder of 5, to its right", flat.elderOf(5), 2);
        check.due("unflipped 3: elder of 6, to its left, and 3 to the right of 1", flat.elderOf(6), 1);
        SnoringDukes flipped = House.FIVE_WITH_FLIPS.make();
        check.due("flipped 1: elder of 2, to its right", flipped.elderOf(2), 1);
        check.due("flipped 1: elder of 3, to its left", flipped.elderOf(3), 0);
        check.due("flipped 2: elder of 4, to its right", flipped.elderOf(4), 2);
    }

    /** "The berth 1 is to its right, whatever its side, which is always 0." */
    private static void theSideOfBerth0IsAlways0() {
        for (House house : House.all()) {
            SnoringDukes x = house.make();
            if (x.dukes() == 0) {
                x.come(999);
            } else {
                check.due(house.name + ": sideOf(0)", x.sideOf(0), 0);
            }
            // The last one rises to berth 0; then it is filled from the last berth, and joined.
            x.hush(x.dukeIn(x.dukes() - 1), 0);
            check.due(house.name + ": sideOf(0) after a hush", x.sideOf(0), 0);
            x.fetch(x.dukeIn(x.dukes() - 1));
            check.dueTrue(house.name + ": sideOf(0) after a fetch", x.dukes() == 0 || x.sideOf(0) == 0);
        }
    }

    /** Berth 1 is to the right of berth 0, with its own side 0 and with 1. */
    private static void theElderOfBerth1IsBerth0() {
        check.due("elder of the unflipped berth 1", seven().elderOf(1), 0);
        SnoringDukes flipped = House.FIVE_WITH_FLIPS.make();
        check.due("side of the flipped berth 1", flipped.sideOf(1), 1);
        check.due("elder of the flipped berth 1", flipped.elderOf(1), 0);
    }

    /** "No duke is quieter than the one in his elder's berth." */
    private static void nobodyIsQuieterThanTheOneInHisEldersBerth() {
        for (House house : House.all()) {
            int dukes = house.make().dukes();
            for (int berth = 1; berth < dukes; berth++) {
                SnoringDukes x = house.make();
                check.dueTrue(house.name + ": berth " + berth + " is no quieter than its elder",
                    x.loudnessIn(berth) >= x.loudnessIn(x.elderOf(berth)));
            }
        }
        SnoringDukes full = new SnoringDukes();
        for (int come = 0; come < 63; come++) {
            full.come((come * 377 + 500) % 1000);
        }
        for (int berth = 1; berth < 63; berth++) {
            check.dueTrue("full: berth " + berth + " is no quieter than its elder",
                full.loudnessIn(berth) >= full.loudnessIn(full.elderOf(berth)));
        }
    }

    /** "Compares both dukes": one louder by 1 than his elder stays. */
    private static void joiningTheLouderIsAComparisonAlone() {
        SnoringDukes x = House.ONE.make();
        x.come(501);
        check.dueBerths("one louder by 1", x, new int[] {0, 1}, new int[] {0, 0});
        check.dueCost("one louder by 1", x, 1, 0);
    }

    /** "If the one in j is quieter": one as loud is not. */
    private static void joiningTheEquallyLoudIsAComparisonAlone() {
        SnoringDukes x = House.ONE.make();
        x.come(500);
        check.dueBerths("one as loud", x, new int[] {0, 1}, new int[] {0, 0});
        check.dueCost("one as loud", x, 1, 0);
    }

    /** "If the one in j is quieter, both change berths": by 1 is enough. */
    private static void joiningTheQuieterIsAChange() {
        SnoringDukes x = House.ONE.make();
        x.come(499);
        check.dueBerths("one quieter by 1", x, new int[] {1, 0}, new int[] {0, 1});
        check.dueCost("one quieter by 1", x, 1, 1);
        check.due("one quieter by 1: loudnessIn(0)", x.loudnessIn(0), 499);
        check.due("one quieter by 1: loudnessIn(1)", x.loudnessIn(1), 500);
    }

    /** "The side of j becomes the other one": 1, and 0 again. */
    private static void theSideBecomesTheOtherOneBothWays() {
        SnoringDukes x = House.TWO.make();
        x.hush(1, 400);
        check.due("side of berth 1 after one change", x.sideOf(1), 1);
        x.hush(0, 300);
        check.due("side of berth 1 after two changes", x.sideOf(1), 0);
        x.hush(1, 200);
        check.due("side of berth 1 after three changes", x.sideOf(1), 1);
        check.dueCost("three changes", x, 4, 3);
    }

    /** "As long as j is not 0." */
    private static void risingFromBerth0JoinsNothing() {
        SnoringDukes x = new SnoringDukes();
        x.come(999);
        check.dueCost("the first one comes into berth 0", x, 0, 0);
        check.due("the first one is hushed", x.hush(0, 0), 0);
        check.dueCost("the first one is hushed", x, 0, 0);
    }

    /** "If nothing changes, stop." */
    private static void risingStopsIfNothingChanges() {
        SnoringDukes once = seven();
        once.come(20);
        // Berth 7 is joined with 3 (40), then 3 with 1 (20), who is as loud.
        check.dueBerths("20 rises once", once, new int[] {0, 1, 2, 7, 4, 5, 6, 3}, new int[] {0, 0, 0, 0, 0, 0, 0, 1});
        check.dueCost("20 rises once", once, 8, 1);
        SnoringDukes never = seven();
        never.come(40);
        check.dueBerths("40 stays", never, new int[] {0, 1, 2, 3, 4, 5, 6, 7}, new int[8]);
        check.dueCost("40 stays", never, 7, 0);
    }

    /** "Otherwise go on with e as j", up to the berth 0. */
    private static void risingGoesOnUpToBerth0() {
        SnoringDukes x = seven();
        x.come(5);
        check.dueBerths("5 rises to the top", x, new int[] {7, 0, 2, 1, 4, 5, 6, 3}, new int[] {0, 1, 0, 1, 0, 0, 0, 1});
        check.dueCost("5 rises to the top", x, 9, 3);
        // Berth 6 is to the right of the flipped 3, whose elder, over the flipped 1, is 0.
        check.due("hush(6, 0)", x.hush(6, 0), 0);
        check.dueCost("6 rises by 3, straight to 0", x, 11, 5);
    }

    /** "All comparisons are counted", by whichever call they are made; and only these calls make any. */
    private static void allComparisonsAreCounted() {
        SnoringDukes x = new SnoringDukes();
        x.come(50);
        x.come(30);
        check.due("comparisons() after come(50), come(30)", x.comparisons(), 1);
        // 10 and 990 are laid into the berths 2 and 3: 3 is joined with 1, 2 with 0, and 1 with 0.
        check.due("coach(2, 10, 980)", x.coach(2, 10, 980), 3);
        check.due("comparisons() after coach(2, 10, 980)", x.comparisons(), 4);
        check.dueBerths("coach(2, 10, 980)", x, new int[] {2, 0, 1, 3}, new int[] {0, 0, 1, 0});
        x.hush(3, 40);
        check.due("comparisons() after hush(3, 40), over 50, not over 10", x.comparisons(), 6);
        check.dueBerths("hush(3, 40)", x, new int[] {2, 3, 1, 0}, new int[] {0, 0, 1, 1});
        // He rises over 40 and over 10; 40 comes back to the top from berth 3, and is joined with 10 in the flipped 1.
        check.due("fetch(0)", x.fetch(0), 3);
        check.due("comparisons() after fetch(0)", x.comparisons(), 9);
        check.due("comparisonsToEmpty() of three", x.comparisonsToEmpty(), 1);
        check.due("comparisons() after comparisonsToEmpty()", x.comparisons(), 9);
        x.leave();
        check.due("comparisons() after leave() of three", x.comparisons(), 10);
    }

    /** Each berth but 0 is the top of a pile that a coach lays beneath its elder's. */
    private static void toLayAPileBeneathAnotherCostsOneComparison() {
        for (int dukes = 1; dukes <= 20; dukes++) {
            SnoringDukes alike = new SnoringDukes();
            check.due("coach(" + dukes + ", 7, 0)", alike.coach(dukes, 7, 0), dukes - 1);
            check.dueCost("coach(" + dukes + ", 7, 0)", alike, dukes - 1, 0);
            SnoringDukes down = new SnoringDukes();
            check.due("coach(" + dukes + ", 999, 999)", down.coach(dukes, 999, 999), dukes - 1);
        }
    }

    /** The state is the object's own: calls of two in turn are answered as if each had been alone. */
    private static void oneObjectDoesNotMoveAnother() {
        SnoringDukes four = new SnoringDukes();
        SnoringDukes five = House.FIVE_WITH_FLIPS.make();
        four.come(50);
        five.hush(4, 0);
        four.come(30);
        five.leave();
        four.come(40);
        five.come(1);
        check.due("the number in one object, with another beside it", four.come(20), 3);
        check.due("four: leavesAt(3)", four.leavesAt(3), 0);
        check.due("five: comparisonsToEmpty()", five.comparisonsToEmpty(), fiveAlone().comparisonsToEmpty());
        check.due("four: comparisonsToEmpty()", four.comparisonsToEmpty(), 2);
        check.due("five: leavesAt(4)", five.leavesAt(4), fiveAlone().leavesAt(4));
        check.dueBerths("four", four, new int[] {3, 1, 2, 0}, new int[] {0, 1, 0, 1});
        check.dueCost("four", four, 4, 3);
        check.due("five: dukes()", five.dukes(), 5);
        check.due("five: comparisons()", five.comparisons(), fiveAlone().comparisons());
    }

    private static SnoringDukes fiveAlone() {
        SnoringDukes x = House.FIVE_WITH_FLIPS.make();
        x.hush(4, 0);
        x.leave();
        x.come(1);
        return x;
    }
}
