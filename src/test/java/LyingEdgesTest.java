/** Promises 7 to 15: each sentence that names a boundary case has a test of its own. */
public final class LyingEdgesTest {
    private static final int[] NO_BERTH_EVER = {-1, -2, 63, 64, 127, Integer.MIN_VALUE, Integer.MAX_VALUE};
    private static final int[] NO_NUMBER_EVER = {-1, -2, 500, 501, Integer.MIN_VALUE, Integer.MAX_VALUE};

    private static final Check check = new Check("LyingEdgesTest");

    public static void main(String[] args) {
        dukesFrom0To63();
        quietestOfNobody();
        quietestLiesInBerth0();
        berthOfWhoDoesNotLieHere();
        berthOfTheFirstAndTheLastNumber();
        theFirstAndTheLastBerth();
        noSuchBerthForNobody();
        noSuchBerthAfterTheLast();
        noSuchBerthWhenItIsGone();
        noSuchBerthEver();
        loudnessIsThatOfNow();
        sideIs0Or1();
        elderOfBerth0();
        eldersOfAFullHouse();
        followersOfTheOnlyBerth();
        followersOnlyAmongTheBerthsThatAreThere();
        followersOfAFullHouse();
        everyBerthButTheFirstFollowsOnce();
        flippedOfNobody();
        flippedWithoutTheGoneBerths();
        flippedAfterACoach();
        check.end();
    }

    /** 0, 10, .. 620 in the berths 0 to 62, all sides 0. */
    private static SnoringDukes unflippedFullHouse() {
        SnoringDukes x = new SnoringDukes();
        for (int come = 0; come < 63; come++) {
            x.come(10 * come);
        }
        return x;
    }

    /** Promise 7: "How many dukes lie here": from none to 63, and back. */
    private static void dukesFrom0To63() {
        SnoringDukes x = new SnoringDukes();
        check.due("dukes() of nobody", x.dukes(), 0);
        for (int come = 1; come <= 63; come++) {
            x.come(1000 - come);
            check.due("dukes() when " + come + " have come", x.dukes(), come);
        }
        for (int left = 62; left >= 0; left--) {
            x.leave();
            check.due("dukes() when " + left + " are left", x.dukes(), left);
        }
        check.due("dukes() when one was fetched", House.TWO_WAS_FETCHED.make().dukes(), 3);
        check.due("dukes() when 500 have come", House.USED_UP.make().dukes(), 60);
    }

    /** Promise 8: "-1 if nobody lies here": at first, when all have left, when the only one was fetched. */
    private static void quietestOfNobody() {
        check.due("nobody: quietest()", House.NOBODY.make().quietest(), -1);
        check.due("emptied: quietest()", House.EMPTIED.make().quietest(), -1);
        SnoringDukes x = House.ONE.make();
        check.due("one: quietest()", x.quietest(), 0);
        x.fetch(0);
        check.due("one, who was fetched: quietest()", x.quietest(), -1);
        x.come(999);
        check.due("the next one: quietest()", x.quietest(), 1);
    }

    /** Promise 8: "who lies in the berth 0": among the equally loud, he alone. */
    private static void quietestLiesInBerth0() {
        SnoringDukes x = House.FOUR.make();
        x.come(20);
        check.due("one as loud as the quietest has come: quietest()", x.quietest(), 3);
        x.hush(0, 20);
        check.due("one is hushed to the quietest: quietest()", x.quietest(), 3);
        x.hush(0, 19);
        check.due("one is hushed below the quietest: quietest()", x.quietest(), 0);
        for (House house : House.all()) {
            SnoringDukes y = house.make();
            check.dueTrue(house.name + ": quietest() is in berth 0",
                y.dukes() == 0 ? y.quietest() == -1 : y.quietest() == y.dukeIn(0));
        }
    }

    /** Promise 9: "any number .. -1 if he does not lie here". */
    private static void berthOfWhoDoesNotLieHere() {
        for (House house : House.all()) {
            for (int duke : NO_NUMBER_EVER) {
                check.due(house.name + ": berthOf(" + duke + ")", house.make().berthOf(duke), -1);
            }
        }
        check.due("nobody: berthOf(0)", House.NOBODY.make().berthOf(0), -1);
        check.due("emptied: berthOf(0)", House.EMPTIED.make().berthOf(0), -1);
        check.due("emptied: berthOf(3)", House.EMPTIED.make().berthOf(3), -1);
        check.due("four: berthOf(4), not given", House.FOUR.make().berthOf(4), -1);
        check.due("3 has left: berthOf(3)", House.THREE_HAS_LEFT.make().berthOf(3), -1);
        check.due("2 was fetched: berthOf(2)", House.TWO_WAS_FETCHED.make().berthOf(2), -1);
        check.due("63 lie: berthOf(63), not given", House.FULL.make().berthOf(63), -1);
        check.due("499 have come: berthOf(499), not given", House.ONE_NUMBER_LEFT.make().berthOf(499), -1);
    }

    /** Promise 9: "His berth", for the number 0 and the number 499, in the berth 0 and in the last one. */
    private static void berthOfTheFirstAndTheLastNumber() {
        SnoringDukes x = House.FOUR.make();
        check.due("four: berthOf(3), at the top", x.berthOf(3), 0);
        check.due("four: berthOf(0), in the last berth", x.berthOf(0), 3);
        SnoringDukes full = unflippedFullHouse();
        check.due("63 lie: berthOf(0)", full.berthOf(0), 0);
        check.due("63 lie: berthOf(62)", full.berthOf(62), 62);
        SnoringDukes used = House.ONE_NUMBER_LEFT.make();
        used.come(999);
        check.due("500 have come: berthOf(499), the loudest", used.berthOf(499), 60);
    }

    /** Promises 10 to 14: the berth 0 and the last one are there, in a house of one, and in a full one. */
    private static void theFirstAndTheLastBerth() {
        SnoringDukes one = House.ONE.make();
        check.due("one: dukeIn(0)", one.dukeIn(0), 0);
        check.due("one: loudnessIn(0)", one.loudnessIn(0), 500);
        check.due("one: sideOf(0)", one.sideOf(0), 0);
        check.due("one: elderOf(0)", one.elderOf(0), -1);
        check.due("one: followersOf(0)", one.followersOf(0), 0);
        SnoringDukes full = unflippedFullHouse();
        check.due("63 lie: dukeIn(0)", full.dukeIn(0), 0);
        check.due("63 lie: loudnessIn(0)", full.loudnessIn(0), 0);
        check.due("63 lie: dukeIn(62)", full.dukeIn(62), 62);
        check.due("63 lie: loudnessIn(62)", full.loudnessIn(62), 620);
        check.due("63 lie: sideOf(62)", full.sideOf(62), 0);
        check.due("63 lie: elderOf(62)", full.elderOf(62), 15);
        check.due("63 lie: followersOf(62)", full.followersOf(62), 0);
    }

    private static void noSuchBerth(House house, int berth) {
        check.dueRefusal(house, "dukeIn(" + berth + ")", Check.INDEX, x -> x.dukeIn(berth));
        check.dueRefusal(house, "loudnessIn(" + berth + ")", Check.INDEX, x -> x.loudnessIn(berth));
        check.dueRefusal(house, "sideOf(" + berth + ")", Check.INDEX, x -> x.sideOf(berth));
        check.dueRefusal(house, "elderOf(" + berth + ")", Check.INDEX, x -> x.elderOf(berth));
        check.dueRefusal(house, "followersOf(" + berth + ")", Check.INDEX, x -> x.followersOf(berth));
    }

    /** "Throws IndexOutOfBoundsException if there is no such berth": not even the berth 0. */
    private static void noSuchBerthForNobody() {
        noSuchBerth(House.NOBODY, 0);
        noSuchBerth(House.EMPTIED, 0);
    }

    /** "If there is no such berth": the last one is one below their number. */
    private static void noSuchBerthAfterTheLast() {
        noSuchBerth(House.ONE, 1);
        noSuchBerth(House.FOUR, 4);
        noSuchBerth(House.FOUR, 62);
        noSuchBerth(House.SIXTY_TWO, 62);
        noSuchBerth(House.FULL, 63);
    }

    /** "That berth is gone", after a leave and after a fetch. */
    private static void noSuchBerthWhenItIsGone() {
        noSuchBerth(House.THREE_HAS_LEFT, 3);
        noSuchBerth(House.TWO_WAS_FETCHED, 3);
        noSuchBerth(House.USED_UP, 60);
    }

    private static void noSuchBerthEver() {
        for (int berth : NO_BERTH_EVER) {
            noSuchBerth(House.NOBODY, berth);
            noSuchBerth(House.FIVE_WITH_FLIPS, berth);
            noSuchBerth(House.FULL, berth);
        }
    }

    /** Promise 11: "His loudness", after a hush too; 0 and 999 are told as they are. */
    private static void loudnessIsThatOfNow() {
        SnoringDukes x = new SnoringDukes();
        x.come(999);
        check.due("loudnessIn(0) of 999", x.loudnessIn(0), 999);
        x.come(999);
        x.hush(1, 0);
        check.due("loudnessIn(0) of one hushed to 0", x.loudnessIn(0), 0);
        check.due("loudnessIn(1) of 999", x.loudnessIn(1), 999);
        SnoringDukes four = House.TWO_WAS_FETCHED.make();
        int[] loudness = {20, 30, 50};
        for (int berth = 0; berth < 3; berth++) {
            check.due("a fetch leaves the loudness in " + berth, four.loudnessIn(berth), loudness[berth]);
        }
    }

    /** Promise 12: "0 or 1". */
    private static void sideIs0Or1() {
        int[] sides = {0, 1, 1, 0, 0};
        SnoringDukes five = House.FIVE_WITH_FLIPS.make();
        for (int berth = 0; berth < 5; berth++) {
            check.due("five: sideOf(" + berth + ")", five.sideOf(berth), sides[berth]);
        }
        SnoringDukes x = House.TWO.make();
        check.due("two: sideOf(1)", x.sideOf(1), 0);
        x.hush(1, 0);
        check.due("two, one rose: sideOf(1)", x.sideOf(1), 1);
        x.fetch(0);
        check.due("one was fetched: sideOf(0)", x.sideOf(0), 0);
        x.come(999);
        check.due("berth 1 anew: sideOf(1)", x.sideOf(1), 0);
    }

    /** Promise 13: "-1 for the berth 0", of one, of a few and of 63. */
    private static void elderOfBerth0() {
        for (House house : House.all()) {
            SnoringDukes x = house.make();
            check.dueTrue(house.name + ": elderOf(0) is -1", x.dukes() == 0 || x.elderOf(0) == -1);
        }
    }

    /** Promise 13, "as long as j is to the left of the berth directly above, go there": from none to six times. */
    private static void eldersOfAFullHouse() {
        SnoringDukes x = unflippedFullHouse();
        int[][] elders = {
            {1, 0}, {2, 0}, {3, 1}, {4, 0}, {6, 1}, {8, 0}, {12, 1}, {16, 0}, {24, 1}, {31, 15}, {32, 0}, {33, 16},
            {40, 2}, {48, 1}, {56, 3}, {60, 7}, {61, 30}, {62, 15},
        };
        for (int[] pair : elders) {
            check.due("unflipped 63: elderOf(" + pair[0] + ")", x.elderOf(pair[0]), pair[1]);
        }
        SnoringDukes five = House.FIVE_WITH_FLIPS.make();
        int[] flipped = {-1, 0, 1, 0, 2};
        for (int berth = 0; berth < 5; berth++) {
            check.due("five: elderOf(" + berth + ")", five.elderOf(berth), flipped[berth]);
        }
    }

    /** Promise 14: the berth 0 does not follow itself. */
    private static void followersOfTheOnlyBerth() {
        check.due("one: followersOf(0)", House.ONE.make().followersOf(0), 0);
        SnoringDukes two = House.TWO.make();
        check.due("two: followersOf(0)", two.followersOf(0), 1);
        check.due("two: followersOf(1)", two.followersOf(1), 0);
    }

    /** Promise 14: a gone berth follows nobody, and what is below by number may be to the left. */
    private static void followersOnlyAmongTheBerthsThatAreThere() {
        dueFollowers("five", House.FIVE_WITH_FLIPS.make(), new int[] {2, 1, 1, 0, 0});
        SnoringDukes four = House.FIVE_WITH_FLIPS.make();
        four.leave();
        dueFollowers("five, and one has left", four, new int[] {2, 1, 0, 0});
        dueFollowers("four", House.FOUR.make(), new int[] {2, 1, 0, 0});
        dueFollowers("3 has left", House.THREE_HAS_LEFT.make(), new int[] {2, 0, 0});
    }

    private static void dueFollowers(String when, SnoringDukes x, int[] followers) {
        for (int berth = 0; berth < followers.length; berth++) {
            check.due(when + ": followersOf(" + berth + ")", x.followersOf(berth), followers[berth]);
        }
    }

    /** Unflipped, 2i + 1 and what is to the left of it follow i, as far as there are berths. */
    private static void followersOfAFullHouse() {
        SnoringDukes x = unflippedFullHouse();
        int[][] followers = {
            {0, 6}, {1, 5}, {2, 4}, {3, 4}, {4, 3}, {7, 3}, {8, 2}, {15, 2}, {16, 1}, {30, 1}, {31, 0}, {62, 0},
        };
        for (int[] pair : followers) {
            check.due("unflipped 63: followersOf(" + pair[0] + ")", x.followersOf(pair[0]), pair[1]);
        }
        x.leave();
        // Berth 62 is gone, to the left of 31; the berths 1, 2, 4, .. 32 are flipped, so 3 and 2 follow 0 and 1.
        check.due("unflipped 63, one has left: followersOf(15)", x.followersOf(15), 1);
        check.due("unflipped 63, one has left: followersOf(0)", x.followersOf(0), 6);
    }

    private static void everyBerthButTheFirstFollowsOnce() {
        for (House house : House.all()) {
            int dukes = house.make().dukes();
            int sum = 0;
            for (int berth = 0; berth < dukes; berth++) {
                sum += house.make().followersOf(berth);
            }
            check.due(house.name + ": all followers", sum, Math.max(0, dukes - 1));
        }
    }

    /** Promise 15: none of no berths. */
    private static void flippedOfNobody() {
        check.due("nobody: flipped()", House.NOBODY.make().flipped(), 0);
        check.due("emptied: flipped()", House.EMPTIED.make().flipped(), 0);
        check.due("one: flipped()", House.ONE.make().flipped(), 0);
    }

    /** Promise 15: a berth that is gone has no side. */
    private static void flippedWithoutTheGoneBerths() {
        check.due("four: flipped()", House.FOUR.make().flipped(), 2);
        check.due("3 has left: flipped()", House.THREE_HAS_LEFT.make().flipped(), 0);
        SnoringDukes x = House.TWO.make();
        x.hush(1, 0);
        check.due("two, one rose: flipped()", x.flipped(), 1);
        x.leave();
        check.due("one is left: flipped()", x.flipped(), 0);
    }

    /** Promise 15: all sides become 0, and those that are joined with a change 1: all but the berth 0, at the most. */
    private static void flippedAfterACoach() {
        SnoringDukes x = new SnoringDukes();
        x.coach(4, 30, 990);
        check.due("30, 20, 10, 0: flipped()", x.flipped(), 3);
        x.coach(1, 999, 0);
        check.due("a loud one more: flipped()", x.flipped(), 0);
    }
}
