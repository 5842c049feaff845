import java.util.function.IntSupplier;

/**
 * Runs of calls, each answer held against the model's. The calls are drawn, but always the same; a run ends with its
 * 512th call, as what later calls answer is free.
 */
public final class ModelTest {
    private static final int RUNS = 1500;
    private static final int CALLS = 512;
    private static final int HEAP_QUESTIONS = 6;
    private static final int BERTH_QUESTIONS = 6;
    private static final int[] ODD_NUMBERS = {
        -1, 62, 63, 64, 499, 500, 501, 999, 1000, Integer.MIN_VALUE, Integer.MAX_VALUE,
    };

    private final Check check;
    private final int run;
    private final SnoringDukes dukes = new SnoringDukes();
    private final DukesModel model = new DukesModel();
    private long drawn;
    private int call = 0;

    private ModelTest(Check check, int run) {
        this.check = check;
        this.run = run;
        this.drawn = 977L * run + 13L;
    }

    public static void main(String[] args) {
        Check check = new Check("ModelTest");
        for (int run = 0; run < RUNS && check.isClean(); run++) {
            new ModelTest(check, run).go();
        }
        check.end();
    }

    private void go() {
        if (run % 5 == 4) {
            useUpNumbers();
        }
        while (call < CALLS && check.isClean()) {
            if (run % 2 == 0 && CALLS - call <= callsToAskAll()) {
                askAll();
            }
            change();
            check.dueTrue("run " + run + ", call " + call + ": weak heap", model.isWeakHeap());
            for (int questions = draw(4); questions > 0; questions--) {
                ask(draw(100) < 50 ? draw(64) : odd());
            }
        }
    }

    /** In 462 calls; leaves up to six numbers, so that the run comes to the 500th duke, or begins behind him. */
    private void useUpNumbers() {
        for (int come = 0; come < 480; come += 20) {
            makeRoomForTwenty();
            coach(20, draw(1000), draw(1000));
        }
        makeRoomForTwenty();
        coach(14 + draw(7), draw(1000), draw(1000));
    }

    private void makeRoomForTwenty() {
        for (int leaving = model.dukes() + 20 - 63; leaving > 0; leaving--) {
            leave();
        }
    }

    private int draw(int below) {
        drawn = drawn * 6364136223846793005L + 1442695040888963407L;
        return (int) ((drawn >>> 33) % below);
    }

    private int odd() {
        return ODD_NUMBERS[draw(ODD_NUMBERS.length)];
    }

    /** Some runs draw from few loudnesses, so that many are alike. */
    private int loudness() {
        return draw(100) < 4 ? odd() : draw(run % 3 == 0 ? 4 : run % 3 == 1 ? 60 : 1000);
    }

    /** Mostly one who lies here. */
    private int someDuke() {
        return model.dukes() == 0 || draw(100) < 8 ? odd() : model.dukeIn(draw(model.dukes()));
    }

    private void change() {
        // Each run fills and empties at a pace of its own.
        int arrivals = 20 + run * 7 % 50;
        int kind = draw(100);
        if (kind < arrivals) {
            if (draw(100) < 12) {
                coach(draw(100) < 6 ? odd() : draw(22), loudness(), loudness());
            } else {
                int loudness = loudness();
                same("come(" + loudness + ")", () -> dukes.come(loudness), () -> model.come(loudness));
            }
        } else if (kind < arrivals + 8) {
            int duke = someDuke();
            same("fetch(" + duke + ")", () -> dukes.fetch(duke), () -> model.fetch(duke));
        } else if (kind < arrivals + 20) {
            int duke = someDuke();
            int loud = draw(100) < 20 ? loudness() : draw(1 + Math.max(0, model.loudnessIn(model.berthOf(duke))));
            same("hush(" + duke + ", " + loud + ")", () -> dukes.hush(duke, loud), () -> model.hush(duke, loud));
        } else {
            leave();
        }
    }

    private void leave() {
        same("leave()", () -> dukes.leave(), () -> model.leave());
    }

    private void coach(int many, int first, int step) {
        same("coach(" + many + ", " + first + ", " + step + ")",
            () -> dukes.coach(many, first, step), () -> model.coach(many, first, step));
    }

    private void ask(int number) {
        switch (draw(3)) {
            case 0:
                askOfDuke(draw(100) < 50 ? someDuke() : number, draw(2));
                break;
            case 1:
                askOfBerth(number, draw(BERTH_QUESTIONS));
                break;
            default:
                askOfHeap(draw(HEAP_QUESTIONS));
        }
    }

    private int callsToAskAll() {
        return HEAP_QUESTIONS + (model.dukes() + 2) * (BERTH_QUESTIONS + 2);
    }

    private void askAll() {
        for (int kind = 0; kind < HEAP_QUESTIONS; kind++) {
            askOfHeap(kind);
        }
        for (int berth = -1; berth <= model.dukes(); berth++) {
            for (int kind = 0; kind < BERTH_QUESTIONS; kind++) {
                askOfBerth(berth, kind);
            }
            int duke = model.dukeIn(berth);
            askOfDuke(duke, 0);
            askOfDuke(duke, 1);
        }
    }

    private void askOfHeap(int kind) {
        switch (kind) {
            case 0:
                same("dukes()", () -> dukes.dukes(), () -> model.dukes());
                break;
            case 1:
                same("quietest()", () -> dukes.quietest(), () -> model.quietest());
                break;
            case 2:
                same("flipped()", () -> dukes.flipped(), () -> model.flipped());
                break;
            case 3:
                same("comparisons()", () -> dukes.comparisons(), () -> model.comparisons);
                break;
            case 4:
                same("changes()", () -> dukes.changes(), () -> model.changes);
                break;
            default:
                same("comparisonsToEmpty()", () -> dukes.comparisonsToEmpty(), () -> model.comparisonsToEmpty());
        }
    }

    private void askOfDuke(int duke, int kind) {
        if (kind == 0) {
            same("berthOf(" + duke + ")", () -> dukes.berthOf(duke), () -> model.berthOf(duke));
        } else {
            same("quieterThan(" + duke + ")", () -> dukes.quieterThan(duke), () -> model.quieterThan(duke));
        }
    }

    private void askOfBerth(int berth, int kind) {
        switch (kind) {
            case 0:
                same("dukeIn(" + berth + ")", () -> dukes.dukeIn(berth), () -> model.dukeIn(berth));
                break;
            case 1:
                same("loudnessIn(" + berth + ")", () -> dukes.loudnessIn(berth), () -> model.loudnessIn(berth));
                break;
            case 2:
                same("sideOf(" + berth + ")", () -> dukes.sideOf(berth), () -> model.sideOf(berth));
                break;
            case 3:
                same("elderOf(" + berth + ")", () -> dukes.elderOf(berth), () -> model.elderOf(berth));
                break;
            case 4:
                same("followersOf(" + berth + ")", () -> dukes.followersOf(berth), () -> model.followersOf(berth));
                break;
            default:
                same("leavesAt(" + berth + ")", () -> dukes.leavesAt(berth), () -> model.leavesAt(berth));
        }
    }

    private void same(String what, IntSupplier asks, IntSupplier modelled) {
        if (call >= CALLS) {
            return;
        }
        call++;
        int want = modelled.getAsInt();
        String told = "run " + run + ", call " + call + ": " + what;
        if (want == DukesModel.BAD_ARGUMENT) {
            check.dueThrow(told, IllegalArgumentException.class, asks);
        } else if (want == DukesModel.BAD_STATE) {
            check.dueThrow(told, IllegalStateException.class, asks);
        } else if (want == DukesModel.BAD_INDEX) {
            check.dueThrow(told, IndexOutOfBoundsException.class, asks);
        } else {
            check.due(told, asks.getAsInt(), want);
        }
    }
}
