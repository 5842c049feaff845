import java.util.function.IntSupplier;

/** Long runs of calls, each answer held against the model's. The calls are drawn, but always the same. */
public final class ModelTest {
    private static final int RUNS = 120;
    private static final int CALLS = 512;
    private static final int[] ODD_NUMBERS = {
        -1, 62, 63, 64, 499, 500, 501, 999, 1000, Integer.MIN_VALUE, Integer.MAX_VALUE,
    };

    private final Check check;
    private final int run;
    private final SnoringDukes dukes = new SnoringDukes();
    private final DukesModel model = new DukesModel();
    private long drawn;
    private int call = 0;

    private ModelTest(Check check, int run) {
        this.check = check;
        this.run = run;
        this.drawn = 977L * run + 13L;
    }

    public static void main(String[] args) {
        Check check = new Check("ModelTest");
        for (int run = 0; run < RUNS && check.isClean(); run++) {
            new ModelTest(check, run).go();
        }
        check.end();
    }

    private void go() {
        if (run % 5 == 4) {
            useUpNumbers();
        }
        for (; call < CALLS && check.isClean(); call++) {
            change();
            ask(draw(100) < 50 ? draw(64) : odd());
            check.dueTrue("run " + run + ", call " + call + ": weak heap", model.isWeakHeap());
        }
        // Asking of all changes nothing, so the object may be asked more than a run is promised.
        askAll();
    }

    /** Leaves 20 numbers, so that the run comes to the 500th duke while there is room in the heap. */
    private void useUpNumbers() {
        for (int come = 0; come < 480; come += 20) {
            for (int leaving = model.dukes() + 20 - 63; leaving > 0; leaving--) {
                same("leave()", () -> dukes.leave(), model.leave());
                call++;
            }
            coach(20, draw(1000), draw(1000));
            call++;
        }
    }

    private int draw(int below) {
        drawn = drawn * 6364136223846793005L + 1442695040888963407L;
        return (int) ((drawn >>> 33) % below);
    }

    private int odd() {
        return ODD_NUMBERS[draw(ODD_NUMBERS.length)];
    }

    /** Some runs draw from few loudnesses, so that many are alike. */
    private int loudness() {
        return draw(100) < 4 ? odd() : draw(run % 3 == 0 ? 4 : run % 3 == 1 ? 60 : 1000);
    }

    /** Mostly one who lies here. */
    private int someDuke() {
        return model.dukes() == 0 || draw(100) < 8 ? odd() : model.dukeIn(draw(model.dukes()));
    }

    private void change() {
        // Each run fills and empties at a pace of its own.
        int arrivals = 20 + run * 7 % 50;
        int kind = draw(100);
        if (kind < arrivals) {
            if (draw(100) < 12) {
                coach(draw(100) < 6 ? odd() : draw(22), loudness(), loudness());
            } else {
                int loudness = loudness();
                same("come(" + loudness + ")", () -> dukes.come(loudness), model.come(loudness));
            }
        } else if (kind < arrivals + 8) {
            int duke = someDuke();
            same("fetch(" + duke + ")", () -> dukes.fetch(duke), model.fetch(duke));
        } else if (kind < arrivals + 20) {
            int duke = someDuke();
            int loud = draw(100) < 20 ? loudness() : draw(1 + Math.max(0, model.loudnessIn(model.berthOf(duke))));
            same("hush(" + duke + ", " + loud + ")", () -> dukes.hush(duke, loud), model.hush(duke, loud));
        } else {
            same("leave()", () -> dukes.leave(), model.leave());
        }
    }

    private void coach(int many, int first, int step) {
        same("coach(" + many + ", " + first + ", " + step + ")",
            () -> dukes.coach(many, first, step), model.coach(many, first, step));
    }

    private void ask(int number) {
        askOfDuke(draw(100) < 50 ? someDuke() : number);
        askOfBerth(number);
        same("comparisonsToEmpty()", () -> dukes.comparisonsToEmpty(), model.comparisonsToEmpty());
        same("dukes()", () -> dukes.dukes(), model.dukes());
        same("quietest()", () -> dukes.quietest(), model.quietest());
        same("flipped()", () -> dukes.flipped(), model.flipped());
        same("comparisons()", () -> dukes.comparisons(), model.comparisons);
        same("changes()", () -> dukes.changes(), model.changes);
    }

    private void askAll() {
        for (int number = -2; number < 503; number++) {
            askOfDuke(number);
        }
        for (int berth = -2; berth < 66; berth++) {
            askOfBerth(berth);
        }
    }

    private void askOfDuke(int duke) {
        same("berthOf(" + duke + ")", () -> dukes.berthOf(duke), model.berthOf(duke));
        same("quieterThan(" + duke + ")", () -> dukes.quieterThan(duke), model.quieterThan(duke));
    }

    private void askOfBerth(int berth) {
        same("dukeIn(" + berth + ")", () -> dukes.dukeIn(berth), model.dukeIn(berth));
        same("loudnessIn(" + berth + ")", () -> dukes.loudnessIn(berth), model.loudnessIn(berth));
        same("sideOf(" + berth + ")", () -> dukes.sideOf(berth), model.sideOf(berth));
        same("elderOf(" + berth + ")", () -> dukes.elderOf(berth), model.elderOf(berth));
        same("followersOf(" + berth + ")", () -> dukes.followersOf(berth), model.followersOf(berth));
        same("leavesAt(" + berth + ")", () -> dukes.leavesAt(berth), model.leavesAt(berth));
    }

    private void same(String what, IntSupplier asks, int want) {
        String told = "run " + run + ", call " + call + ": " + what;
        if (want == DukesModel.BAD_ARGUMENT) {
            check.dueThrow(told, IllegalArgumentException.class, asks);
        } else if (want == DukesModel.BAD_STATE) {
            check.dueThrow(told, IllegalStateException.class, asks);
        } else if (want == DukesModel.BAD_INDEX) {
            check.dueThrow(told, IndexOutOfBoundsException.class, asks);
        } else {
            check.due(told, asks.getAsInt(), want);
        }
    }
}
