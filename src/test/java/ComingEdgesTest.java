/** Promises 1 to 3: each sentence that names a boundary case has a test of its own. */
public final class ComingEdgesTest {
    private static final int[] NO_LOUDNESS = {-1, 1000, -1000, 1001, Integer.MIN_VALUE, Integer.MAX_VALUE};
    private static final int[] NO_COACH = {0, 21, -1, 63, Integer.MIN_VALUE, Integer.MAX_VALUE};
    // Enough for the arguments that are refused wherever it be; each refusal is followed by some 1,400 questions.
    private static final House[] SOME = {House.NOBODY, House.FIVE_WITH_FLIPS, House.FULL_AND_USED_UP};

    private static final Check check = new Check("ComingEdgesTest");

    public static void main(String[] args) {
        aNewObjectIsAnEmptyHeap();
        comeTakes0To999();
        comeRefusesWhatIsNot0To999();
        comeTakesThe63rd();
        comeRefusesThe64th();
        comeTakesTheNumber499();
        comeRefusesWhen500HaveCome();
        comeIntoBerth0();
        comeBeginsABerthWithTheSide0();
        comeIntoAnEvenBerthSetsTheSideAboveTo0();
        comeIntoBerth2SetsTheSideOf1To0();
        comeIntoAnOddBerthKeepsTheSideAbove();
        coachTakes1To20();
        coachRefusesWhatIsNot1To20();
        coachTakesAFirstOf0To999();
        coachRefusesAFirstThatIsNot0To999();
        coachTakesAStepOf0To999();
        coachRefusesAStepThatIsNot0To999();
        coachGoesOnModulo1000();
        coachFillsUpTo63();
        coachRefusesMoreThan63();
        coachNumbersUpTo499();
        coachRefusesMoreThan500();
        coachSetsAllSidesTo0();
        coachJoinsFromTheLastDownToBerth1();
        coachOfOneForNobody();
        coachTellsItsOwnComparisons();
        check.end();
    }

    /** Promise 1: "An empty heap." */
    private static void aNewObjectIsAnEmptyHeap() {
        SnoringDukes x = new SnoringDukes();
        check.due("new: dukes()", x.dukes(), 0);
        check.due("new: quietest()", x.quietest(), -1);
        check.due("new: flipped()", x.flipped(), 0);
        check.due("new: comparisonsToEmpty()", x.comparisonsToEmpty(), 0);
        check.dueCost("new", x, 0, 0);
        check.due("new: berthOf(0)", x.berthOf(0), -1);
        check.dueThrow("new: leave()", Check.STATE, x::leave);
        check.dueThrow("new: dukeIn(0)", Check.INDEX, () -> x.dukeIn(0));
        check.due("new: the first number", x.come(999), 0);
        SnoringDukes other = new SnoringDukes();
        check.due("new, beside another: dukes()", other.dukes(), 0);
        check.due("new, beside another: the first number", other.come(0), 0);
    }

    /** Promise 2: "loudness: 0 to 999". */
    private static void comeTakes0To999() {
        for (int loudness : new int[] {0, 1, 998, 999}) {
            SnoringDukes x = new SnoringDukes();
            check.due("come(" + loudness + ")", x.come(loudness), 0);
            check.due("come(" + loudness + "): loudnessIn(0)", x.loudnessIn(0), loudness);
        }
        SnoringDukes both = new SnoringDukes();
        both.come(999);
        check.due("come(0) after come(999)", both.come(0), 1);
        check.dueBerths("come(0) after come(999)", both, new int[] {1, 0}, new int[] {0, 1});
    }

    /** Promise 2: "Throws IllegalArgumentException if loudness is out of range", which is listed first. */
    private static void comeRefusesWhatIsNot0To999() {
        for (House house : SOME) {
            for (int loudness : NO_LOUDNESS) {
                check.dueRefusal(house, "come(" + loudness + ")", Check.ARGUMENT, x -> x.come(loudness));
            }
        }
    }

    /** Promise 2: "if 63 lie here": 62 do not refuse. */
    private static void comeTakesThe63rd() {
        SnoringDukes x = House.SIXTY_TWO.make();
        check.due("62 lie: come(999)", x.come(999), 62);
        check.due("62 lie: dukes() after come(999)", x.dukes(), 63);
        check.due("62 lie: berthOf(62), nobody is louder", x.berthOf(62), 62);
        SnoringDukes again = House.FULL.make();
        again.leave();
        check.due("63 lay, and one left: come(999)", again.come(999), 63);
    }

    /** Promise 2: "Throws IllegalStateException if 63 lie here". */
    private static void comeRefusesThe64th() {
        check.dueRefusal(House.FULL, "come(0)", Check.STATE, x -> x.come(0));
        check.dueRefusal(House.FULL, "come(999)", Check.STATE, x -> x.come(999));
    }

    /** "500 can come": the last number is 499. */
    private static void comeTakesTheNumber499() {
        SnoringDukes x = House.ONE_NUMBER_LEFT.make();
        check.due("499 have come: dukes()", x.dukes(), 60);
        check.due("499 have come: come(0)", x.come(0), 499);
        check.dueTrue("499 have come: he lies here", x.berthOf(499) >= 0);
        check.due("499 have come: dukes() after come(0)", x.dukes(), 61);
    }

    /** Promise 2: "or 500 have come", be there room or not. */
    private static void comeRefusesWhen500HaveCome() {
        check.due("500 have come: dukes()", House.USED_UP.make().dukes(), 60);
        check.dueRefusal(House.USED_UP, "come(0)", Check.STATE, x -> x.come(0));
        check.dueRefusal(House.FULL_AND_USED_UP, "come(0)", Check.STATE, x -> x.come(0));
        SnoringDukes x = House.USED_UP.make();
        for (int i = 0; i < 20; i++) {
            x.leave();
        }
        check.dueThrow("500 have come, and 20 more have left", Check.STATE, () -> x.come(0));
    }

    /** The next berth is 0, if nobody lies here; nobody is above. */
    private static void comeIntoBerth0() {
        SnoringDukes first = new SnoringDukes();
        first.come(500);
        check.dueBerths("the first one", first, new int[] {0}, new int[] {0});
        check.dueCost("the first one", first, 0, 0);
        SnoringDukes anew = House.EMPTIED.make();
        int comparisons = anew.comparisons();
        int changes = anew.changes();
        anew.come(999);
        check.dueBerths("the first one after all have left", anew, new int[] {4}, new int[] {0});
        check.dueCost("the first one after all have left", anew, comparisons, changes);
    }

    /** "A duke comes into the next berth j, with the side 0", be it 1 when the berth was gone. */
    private static void comeBeginsABerthWithTheSide0() {
        SnoringDukes x = House.FOUR.make();
        check.due("side of berth 3 before it is gone", x.sideOf(3), 1);
        x.leave();
        x.come(999);
        check.dueBerths("berth 3 anew", x, new int[] {1, 0, 2, 4}, new int[4]);
    }

    /** "If j is even, the berth directly above gets the side 0, too." */
    private static void comeIntoAnEvenBerthSetsTheSideAboveTo0() {
        SnoringDukes x = House.FIVE_WITH_FLIPS.make();
        x.leave();
        // 900 came to the top; 600 rose from 3, then 300 from 1: berth 2 keeps the side 1, with nothing below.
        check.dueBerths("berth 4 is gone", x, new int[] {2, 3, 0, 4}, new int[] {0, 0, 1, 1});
        check.dueCost("berth 4 is gone", x, 6, 4);
        x.come(350);
        check.dueBerths("berth 4 anew", x, new int[] {2, 3, 0, 4, 5}, new int[] {0, 0, 0, 1, 0});
        check.due("berth 4 anew: elderOf(4), to the left of 2", x.elderOf(4), 0);
        check.dueCost("berth 4 anew", x, 7, 4);
    }

    /** The same where it begins: the berth directly above 2 is 1. */
    private static void comeIntoBerth2SetsTheSideOf1To0() {
        SnoringDukes x = House.ONE.make();
        x.come(400);
        check.due("sideOf(1) before berth 2", x.sideOf(1), 1);
        x.come(450);
        check.dueBerths("berth 2 has come", x, new int[] {1, 0, 2}, new int[3]);
        check.due("berth 2 has come: elderOf(2)", x.elderOf(2), 0);
        check.dueCost("berth 2 has come", x, 2, 1);
    }

    /** Of the berth directly above an odd one nothing is said. */
    private static void comeIntoAnOddBerthKeepsTheSideAbove() {
        SnoringDukes x = new SnoringDukes();
        // 500, 100, 700: only 1 rises.
        x.coach(3, 500, 600);
        check.dueBerths("before berth 3", x, new int[] {1, 0, 2}, new int[] {0, 1, 0});
        x.come(300);
        check.dueBerths("berth 3, to the left of the flipped 1", x, new int[] {1, 0, 2, 3}, new int[] {0, 1, 0, 0});
        check.due("elderOf(3)", x.elderOf(3), 0);
        check.due("elderOf(2)", x.elderOf(2), 1);
        check.dueCost("berth 3", x, 3, 1);
    }

    /** Promise 3: "dukes: how many, 1 to 20". */
    private static void coachTakes1To20() {
        for (int dukes : new int[] {1, 2, 19, 20}) {
            SnoringDukes x = new SnoringDukes();
            check.due("coach(" + dukes + ", 0, 1)", x.coach(dukes, 0, 1), dukes - 1);
            check.due("coach(" + dukes + ", 0, 1): dukes()", x.dukes(), dukes);
            check.due("coach(" + dukes + ", 0, 1): the next number", x.come(0), dukes);
        }
    }

    /** Promise 3: "Throws IllegalArgumentException if dukes .. is out of range", which is listed first. */
    private static void coachRefusesWhatIsNot1To20() {
        for (House house : SOME) {
            for (int dukes : NO_COACH) {
                check.dueRefusal(house, "coach(" + dukes + ", 5, 5)", Check.ARGUMENT, x -> x.coach(dukes, 5, 5));
            }
        }
    }

    /** Promise 3: "first: the loudness of the first one, 0 to 999". */
    private static void coachTakesAFirstOf0To999() {
        for (int first : new int[] {0, 1, 998, 999}) {
            SnoringDukes x = new SnoringDukes();
            x.coach(1, first, 999);
            check.due("coach(1, " + first + ", 999): loudnessIn(0)", x.loudnessIn(0), first);
        }
    }

    private static void coachRefusesAFirstThatIsNot0To999() {
        for (House house : SOME) {
            for (int first : NO_LOUDNESS) {
                check.dueRefusal(house, "coach(1, " + first + ", 0)", Check.ARGUMENT, x -> x.coach(1, first, 0));
            }
        }
    }

    /** Promise 3: "step: 0 to 999: each next one is louder by that". */
    private static void coachTakesAStepOf0To999() {
        for (int step : new int[] {0, 1, 998, 999}) {
            SnoringDukes x = new SnoringDukes();
            x.coach(2, 0, step);
            check.due("coach(2, 0, " + step + "): loudness of 0", x.loudnessIn(x.berthOf(0)), 0);
            check.due("coach(2, 0, " + step + "): loudness of 1", x.loudnessIn(x.berthOf(1)), step);
        }
    }

    /** Even for a single duke, whose loudness the step does not change. */
    private static void coachRefusesAStepThatIsNot0To999() {
        for (House house : SOME) {
            for (int step : NO_LOUDNESS) {
                check.dueRefusal(house, "coach(1, 0, " + step + ")", Check.ARGUMENT, x -> x.coach(1, 0, step));
            }
        }
    }

    /** Promise 3: "modulo 1000": 999 stays, 1000 is 0, and so on each time it is passed. */
    private static void coachGoesOnModulo1000() {
        dueLoudness("coach(3, 998, 1)", 998, 1, new int[] {998, 999, 0});
        dueLoudness("coach(5, 500, 500)", 500, 500, new int[] {500, 0, 500, 0, 500});
        dueLoudness("coach(4, 1, 999)", 1, 999, new int[] {1, 0, 999, 998});
        dueLoudness("coach(6, 900, 350)", 900, 350, new int[] {900, 250, 600, 950, 300, 650});
        int[] down = new int[20];
        for (int i = 0; i < 20; i++) {
            down[i] = 999 - i;
        }
        dueLoudness("coach(20, 999, 999)", 999, 999, down);
    }

    private static void dueLoudness(String call, int first, int step, int[] loudness) {
        SnoringDukes x = new SnoringDukes();
        x.coach(loudness.length, first, step);
        for (int duke = 0; duke < loudness.length; duke++) {
            check.due(call + ": loudness of " + duke, x.loudnessIn(x.berthOf(duke)), loudness[duke]);
        }
    }

    /** Promise 3: "if more than 63 would lie here": 63 may. */
    private static void coachFillsUpTo63() {
        SnoringDukes twenty = House.used(43, 43);
        check.due("43 lie: coach(20, 0, 0)", twenty.coach(20, 0, 0), 62);
        check.due("43 lie: dukes() after a coach of 20", twenty.dukes(), 63);
        SnoringDukes one = House.SIXTY_TWO.make();
        check.due("62 lie: coach(1, 0, 0)", one.coach(1, 0, 0), 62);
        check.due("62 lie: dukes() after a coach of 1", one.dukes(), 63);
    }

    /** Promise 3: "Throws IllegalStateException if more than 63 would lie here", by one, or by many. */
    private static void coachRefusesMoreThan63() {
        House fortyFour = new House("44 lie", () -> House.used(44, 44));
        check.dueRefusal(fortyFour, "coach(20, 0, 0)", Check.STATE, x -> x.coach(20, 0, 0));
        check.dueRefusal(House.SIXTY_TWO, "coach(2, 0, 0)", Check.STATE, x -> x.coach(2, 0, 0));
        check.dueRefusal(House.FULL, "coach(1, 0, 0)", Check.STATE, x -> x.coach(1, 0, 0));
        check.dueRefusal(House.FULL, "coach(20, 999, 999)", Check.STATE, x -> x.coach(20, 999, 999));
    }

    /** Promise 3: "or more than 500 would have come": 500 may. */
    private static void coachNumbersUpTo499() {
        SnoringDukes twenty = House.used(480, 40);
        check.due("480 have come: coach(20, 0, 0)", twenty.coach(20, 0, 0), 59);
        check.dueTrue("480 have come: 499 lies here after a coach of 20", twenty.berthOf(499) >= 0);
        check.due("480 have come: nobody is 500", twenty.berthOf(500), -1);
        SnoringDukes one = House.ONE_NUMBER_LEFT.make();
        check.due("499 have come: coach(1, 999, 0)", one.coach(1, 999, 0), 60);
        check.due("499 have come: berthOf(499), nobody is louder", one.berthOf(499), 60);
    }

    /** Promise 3: "more than 500 would have come", by one, or by many, be there room or not. */
    private static void coachRefusesMoreThan500() {
        House numbersFor19 = new House("481 have come", () -> House.used(481, 40));
        check.dueRefusal(numbersFor19, "coach(20, 0, 0)", Check.STATE, x -> x.coach(20, 0, 0));
        check.dueRefusal(House.ONE_NUMBER_LEFT, "coach(2, 0, 0)", Check.STATE, x -> x.coach(2, 0, 0));
        check.dueRefusal(House.USED_UP, "coach(1, 0, 0)", Check.STATE, x -> x.coach(1, 0, 0));
        check.dueRefusal(House.FULL_AND_USED_UP, "coach(1, 0, 0)", Check.STATE, x -> x.coach(1, 0, 0));
    }

    /** Promise 3: "with the side 0, all sides become 0": of those who lay here before, too, before the joins. */
    private static void coachSetsAllSidesTo0() {
        SnoringDukes loud = House.FOUR.make();
        check.due("four: coach(1, 999, 0)", loud.coach(1, 999, 0), 4);
        check.dueBerths("a loud one for four", loud, new int[] {3, 1, 2, 0, 4}, new int[5]);
        check.dueCost("a loud one for four", loud, 8, 3);
        SnoringDukes quiet = House.FOUR.make();
        check.due("four: coach(1, 0, 0)", quiet.coach(1, 0, 0), 4);
        check.dueBerths("a quiet one for four", quiet, new int[] {4, 1, 2, 0, 3}, new int[] {0, 0, 0, 0, 1});
        check.dueCost("a quiet one for four", quiet, 8, 4);
    }

    /** Promise 3: "from the last one down to the berth 1". */
    private static void coachJoinsFromTheLastDownToBerth1() {
        SnoringDukes x = new SnoringDukes();
        // 30, 20, 10, 0: 3 rises over 1, 2 over 0, then 1 over 0.
        check.due("coach(4, 30, 990)", x.coach(4, 30, 990), 3);
        check.dueBerths("coach(4, 30, 990)", x, new int[] {3, 2, 0, 1}, new int[] {0, 1, 1, 1});
        check.dueCost("coach(4, 30, 990)", x, 3, 3);
    }

    /** Promise 3: the last one is in berth 0 then: nothing is joined. */
    private static void coachOfOneForNobody() {
        SnoringDukes first = new SnoringDukes();
        check.due("nobody: coach(1, 999, 999)", first.coach(1, 999, 999), 0);
        check.dueBerths("nobody: coach(1, 999, 999)", first, new int[] {0}, new int[] {0});
        check.dueCost("nobody: coach(1, 999, 999)", first, 0, 0);
        SnoringDukes anew = House.EMPTIED.make();
        check.due("emptied: coach(1, 0, 0)", anew.coach(1, 0, 0), 0);
        check.dueBerths("emptied: coach(1, 0, 0)", anew, new int[] {4}, new int[] {0});
    }

    /** Promise 3: "how many comparisons that took", without those before. */
    private static void coachTellsItsOwnComparisons() {
        SnoringDukes x = new SnoringDukes();
        check.due("the first coach", x.coach(20, 0, 50), 19);
        check.due("the second coach", x.coach(20, 0, 50), 39);
        check.due("the third coach", x.coach(20, 0, 50), 59);
        check.due("the fourth coach", x.coach(3, 0, 50), 62);
        check.due("comparisons() of four coaches", x.comparisons(), 19 + 39 + 59 + 62);
    }
}
