import java.util.ArrayList;
import java.util.List;
import java.util.function.Supplier;
import java.util.function.ToIntFunction;

/** All that the calls tell of an object, and of what comes next, as lines; of a call that throws the exception. */
final class Telling {
    // One object is asked so much, and then the next one made alike: the makers need up to 466 of the 512 calls.
    private static final int QUESTIONS_OF_ONE = 30;

    private final Supplier<SnoringDukes> maker;
    private final List<String> lines = new ArrayList<>();
    private SnoringDukes asked = null;
    private int asking = 0;

    private Telling(Supplier<SnoringDukes> maker) {
        this.maker = maker;
    }

    static List<String> of(Supplier<SnoringDukes> maker) {
        Telling telling = new Telling(maker);
        telling.askOfAll();
        for (int berth = -1; berth <= 63; berth++) {
            telling.askOfBerth(berth);
        }
        for (int duke = -1; duke <= 500; duke++) {
            telling.askOfDuke(duke);
        }
        telling.askWhatComesNext();
        return telling.lines;
    }

    static String answer(SnoringDukes x, ToIntFunction<SnoringDukes> call) {
        try {
            return String.valueOf(call.applyAsInt(x));
        } catch (RuntimeException thrown) {
            return "throws." + thrown.getClass().getSimpleName();
        }
    }

    private void ask(String question, ToIntFunction<SnoringDukes> call) {
        if (asking % QUESTIONS_OF_ONE == 0) {
            asked = maker.get();
        }
        asking++;
        lines.add(question + " answers " + answer(asked, call));
    }

    private void askAnew(String question, ToIntFunction<SnoringDukes> call) {
        lines.add(question + " answers " + answer(maker.get(), call));
    }

    private void askOfAll() {
        ask("dukes()", SnoringDukes::dukes);
        ask("quietest()", SnoringDukes::quietest);
        ask("flipped()", SnoringDukes::flipped);
        ask("comparisons()", SnoringDukes::comparisons);
        ask("changes()", SnoringDukes::changes);
        ask("comparisonsToEmpty()", SnoringDukes::comparisonsToEmpty);
    }

    private void askOfBerth(int berth) {
        ask("dukeIn(" + berth + ")", x -> x.dukeIn(berth));
        ask("loudnessIn(" + berth + ")", x -> x.loudnessIn(berth));
        ask("sideOf(" + berth + ")", x -> x.sideOf(berth));
        ask("elderOf(" + berth + ")", x -> x.elderOf(berth));
        ask("followersOf(" + berth + ")", x -> x.followersOf(berth));
        ask("leavesAt(" + berth + ")", x -> x.leavesAt(berth));
    }

    private void askOfDuke(int duke) {
        ask("berthOf(" + duke + ")", x -> x.berthOf(duke));
        ask("quieterThan(" + duke + ")", x -> x.quieterThan(duke));
    }

    /** What no question tells shows in what comes next: the next number, above all. */
    private void askWhatComesNext() {
        askAnew("come(0)", x -> x.come(0));
        askAnew("come(999), his berth", x -> x.berthOf(x.come(999)));
        askAnew("coach(1, 500, 0)", x -> x.coach(1, 500, 0));
        askAnew("leave()", SnoringDukes::leave);
        askAnew("leave(), then come(0)", x -> x.leave() + 1000 * x.come(0));
        askAnew("leave(), then comparisons()", Telling::comparisonsAfterLeaving);
    }

    private static int comparisonsAfterLeaving(SnoringDukes x) {
        x.leave();
        return x.comparisons();
    }
}
