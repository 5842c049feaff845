import java.util.List;
import java.util.function.IntSupplier;
import java.util.function.Supplier;
import java.util.function.ToIntFunction;

/** Counts the answers that are not as due, and prints each of them. */
final class Check {
    static final Class<IllegalArgumentException> ARGUMENT = IllegalArgumentException.class;
    static final Class<IllegalStateException> STATE = IllegalStateException.class;
    static final Class<IndexOutOfBoundsException> INDEX = IndexOutOfBoundsException.class;

    private final String test;
    private int wrong = 0;
    private int asked = 0;

    Check(String test) {
        this.test = test;
    }

    void due(String call, int got, int want) {
        asked++;
        if (got != want) {
            tell(call + " answered " + got + ", due is " + want);
        }
    }

    /** The class thrown must be the very one: what the machine throws is often a class below it. */
    void dueThrow(String call, Class<? extends RuntimeException> want, IntSupplier asks) {
        asked++;
        try {
            tell(call + " answered " + asks.getAsInt() + ", due is a " + want.getSimpleName());
        } catch (RuntimeException thrown) {
            if (thrown.getClass() != want) {
                tell(call + " threw " + thrown + ", due is a " + want.getSimpleName());
            }
        }
    }

    /** A call that is refused throws, and whatever the other calls tell is then as before. */
    void dueRefusal(House house, String call, Class<? extends RuntimeException> want, ToIntFunction<SnoringDukes> asks) {
        dueThrow(house.name + ": " + call, want, () -> asks.applyAsInt(house.make()));
        dueUnchanged(house, call, asks);
    }

    /** After the call, be it answered or refused, whatever the other calls tell is as before. */
    void dueUnchanged(House house, String call, ToIntFunction<SnoringDukes> asks) {
        asked++;
        Supplier<SnoringDukes> called = () -> {
            SnoringDukes x = house.make();
            Telling.answer(x, asks);
            return x;
        };
        List<String> before = house.telling();
        List<String> after = Telling.of(called);
        for (int line = 0; line < before.size(); line++) {
            if (!after.get(line).equals(before.get(line))) {
                tell(house.name + ": after " + call + ": " + after.get(line) + ", and before: " + before.get(line));
                return;
            }
        }
    }

    void dueTrue(String what, boolean holds) {
        asked++;
        if (!holds) {
            tell(what + " does not hold");
        }
    }

    /** Which dukes lie here, berth by berth, and with which sides. */
    void dueBerths(String when, SnoringDukes x, int[] dukes, int[] sides) {
        due(when + ": dukes()", x.dukes(), dukes.length);
        for (int berth = 0; berth < dukes.length && berth < x.dukes(); berth++) {
            due(when + ": dukeIn(" + berth + ")", x.dukeIn(berth), dukes[berth]);
            due(when + ": berthOf(" + dukes[berth] + ")", x.berthOf(dukes[berth]), berth);
            due(when + ": sideOf(" + berth + ")", x.sideOf(berth), sides[berth]);
        }
    }

    void dueCost(String when, SnoringDukes x, int comparisons, int changes) {
        due(when + ": comparisons()", x.comparisons(), comparisons);
        due(when + ": changes()", x.changes(), changes);
    }

    boolean isClean() {
        return wrong == 0;
    }

    void end() {
        System.out.println(test + ": " + asked + " answers, " + wrong + " not as due");
        if (wrong != 0) {
            System.exit(1);
        }
    }

    private void tell(String line) {
        wrong++;
        System.out.println(test + ": " + line);
    }
}
