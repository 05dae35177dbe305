import java.util.ArrayList;
import java.util.List;
import java.util.function.Consumer;

/**
 * "A call that throws changes nothing; of several exceptions the one named first is thrown." Every
 * call that a promise refuses, in every kind of state: which exception it throws, and that the
 * object is behind it what it was before.
 */
public final class RefusedTest {
    private static final int MIN = Integer.MIN_VALUE;
    private static final int MAX = Integer.MAX_VALUE;
    private static final double NAN = Double.NaN;
    private static final double INFINITE = Double.POSITIVE_INFINITY;
    private static final double OVER_16 = Math.nextUp(16.0);
    private static final double OVER_1000 = Math.nextUp(1000.0);
    private static final Due DUE = new Due();
    private static final List<Refusal> REFUSALS = new ArrayList<>();

    private enum When { ALWAYS, NOT_SHAPED, NOT_KEPT, FULL }

    private record Refusal(String name, When when, Class<?> due, Consumer<StemShapes> call) {
        boolean isDueIn(States state) {
            switch (when) {
                case NOT_SHAPED:
                    return !state.isShaped;
                case NOT_KEPT:
                    return !state.isShaped || !state.isKept;
                case FULL:
                    return state.isFull;
                default:
                    return true;
            }
        }
    }

    public static void main(String[] args) {
        indexesComeFirst();
        partsOfShapesAreIndexesToo();
        argumentsComeBeforeStates();
        argumentsAreRefused();
        statesAreRefused();
        for (States state : States.values()) {
            String before = Probe.of(state::make);
            for (Refusal refusal : REFUSALS) {
                if (refusal.isDueIn(state)) {
                    check(state, before, refusal);
                } else {
                    isNotRefused(state, refusal);
                }
            }
        }
        DUE.end();
    }

    private static void check(States state, String before, Refusal refusal) {
        String name = refusal.name + " in the state " + state;
        String behind = Probe.of(() -> {
            StemShapes stem = state.make();
            String thrown = thrownBy(stem, refusal);
            if (!thrown.equals(refusal.due.getSimpleName())) {
                DUE.complain(name, thrown, "throws." + refusal.due.getSimpleName());
            }
            return stem;
        });
        DUE.answer(name + " changes nothing", behind.equals(before), true);
    }

    private static void isNotRefused(States state, Refusal refusal) {
        String thrown = thrownBy(state.make(), refusal);
        if (!thrown.equals("nothing")) {
            DUE.complain(refusal.name + " in the state " + state, thrown, "an answer");
        }
    }

    private static String thrownBy(StemShapes stem, Refusal refusal) {
        try {
            refusal.call.accept(stem);
            return "nothing";
        } catch (RuntimeException thrown) {
            String name = thrown.getClass().getSimpleName();
            return Due.isOfMachine(thrown) ? name + " of the Java machine" : name;
        }
    }

    /** "ArrayIndexOutOfBoundsException: there is no such slice, view.", named first in each call. */
    private static void indexesComeFirst() {
        for (int bad : new int[] {-1, 3, 4, 16, MIN, MAX}) {
            String of = " of " + bad;
            noRange("aim, view" + of, stem -> stem.aim(bad, 1, 1));
            noRange("aim, view and p" + of, stem -> stem.aim(bad, OVER_16, 1));
            noRange("aim, view and q" + of, stem -> stem.aim(bad, 1, NAN));
            noRange("aim, view and no direction" + of, stem -> stem.aim(bad, 0, 0));
            noRange("shadow, slice" + of, stem -> stem.shadow(bad, 1, 1, 2));
            noRange("shadow, view" + of, stem -> stem.shadow(1, bad, 1, 2));
            noRange("shadow, slice and view" + of, stem -> stem.shadow(bad, bad, 1, 2));
            noRange("shadow, slice and from" + of, stem -> stem.shadow(bad, 1, -OVER_1000, 2));
            noRange("shadow, view and to" + of, stem -> stem.shadow(1, bad, 1, NAN));
            noRange("shadow, view and to less" + of, stem -> stem.shadow(1, bad, 2, 1));
            noRange("lift, slice" + of, stem -> stem.lift(bad, 0));
            noRange("lift, view" + of, stem -> stem.lift(0, bad));
            noRange("lift, slice and view" + of, stem -> stem.lift(bad, bad));
            noRange("shape, slice" + of, stem -> stem.shape(bad, 0));
            noRange("fitted, slice" + of, stem -> stem.fitted(bad));
            noRange("inside, slice" + of, stem -> stem.inside(bad, 0, 0));
            noRange("inside, slice and x" + of, stem -> stem.inside(bad, OVER_1000, 0));
            noRange("inside, slice and y" + of, stem -> stem.inside(bad, 0, NAN));
            noRange("wholes, slice" + of, stem -> stem.wholes(bad));
        }
    }

    /** "ArrayIndexOutOfBoundsException: also of what" */
    private static void partsOfShapesAreIndexesToo() {
        for (int bad : new int[] {-1, 5, 6, MIN, MAX}) {
            noRange("shape, what of " + bad, stem -> stem.shape(0, bad));
            noRange("shape, slice and what of " + bad, stem -> stem.shape(-1, bad));
        }
    }

    /** Named before IllegalStateException, by inside, rule and apart. */
    private static void argumentsComeBeforeStates() {
        for (double bad : new double[] {OVER_1000, -OVER_1000, NAN, INFINITE, -INFINITE}) {
            noArgument("inside, x of " + bad, stem -> stem.inside(0, bad, 0));
            noArgument("inside, y of " + bad, stem -> stem.inside(0, 0, bad));
            noArgument("inside, x and y of " + bad, stem -> stem.inside(2, bad, bad));
        }
        for (int bad : new int[] {-1, 5, MIN, MAX}) {
            noArgument("rule, kind of " + bad, stem -> stem.rule(bad, 0, 0));
            noArgument("rule, kind and class of " + bad, stem -> stem.rule(bad, 0, 101));
        }
        for (int bad : new int[] {-1, 101, MIN, MAX}) {
            noArgument("rule, class of " + bad, stem -> stem.rule(4, 100, bad));
        }
        for (int bad : new int[] {-1, 4, MIN, MAX}) {
            noArgument("apart, turn of " + bad, stem -> stem.apart(bad));
        }
    }

    /** "IllegalArgumentException: another number is not as said." */
    private static void argumentsAreRefused() {
        for (double bad : new double[] {OVER_16, -OVER_16, NAN, INFINITE, -INFINITE}) {
            noArgument("aim, p of " + bad, stem -> stem.aim(0, bad, 1));
            noArgument("aim, q of " + bad, stem -> stem.aim(0, 1, bad));
            noArgument("aim, p of " + bad + " and q of 0", stem -> stem.aim(0, bad, 0));
            noArgument("aim, p of 0 and q of " + bad, stem -> stem.aim(0, 0, bad));
        }
        noArgument("aim, p and q of 0", stem -> stem.aim(1, 0, 0));
        noArgument("aim, p and q of -0", stem -> stem.aim(1, -0.0, -0.0));
        for (double bad : new double[] {OVER_1000, -OVER_1000, NAN, INFINITE, -INFINITE}) {
            noArgument("shadow, from of " + bad, stem -> stem.shadow(0, 0, bad, 1000));
            noArgument("shadow, to of " + bad, stem -> stem.shadow(0, 0, -1000, bad));
            noArgument("shadow, from and to of " + bad, stem -> stem.shadow(2, 1, bad, bad));
        }
        noArgument("shadow, to less than from", stem -> stem.shadow(0, 0, 1, Math.nextDown(1.0)));
        noArgument("shadow, to less than from where none is", stem -> stem.shadow(2, 1, 1000, -1000));
        noArgument("law, length below 0", stem -> stem.law(-1, 1, 0));
        noArgument("law, length too large", stem -> stem.law(1000000001, 1, 0));
        noArgument("law, unit of 0", stem -> stem.law(5, 0, 0));
        noArgument("law, unit too large", stem -> stem.law(5, 1000001, 0));
        noArgument("law, least below 0", stem -> stem.law(5, 1, -1));
        noArgument("law, all of them", stem -> stem.law(-1, 0, -1));
    }

    private static void statesAreRefused() {
        for (int what = 0; what < 5; what++) {
            int part = what;
            noState("shape, what of " + what, When.NOT_SHAPED, stem -> stem.shape(2, part));
        }
        noState("fitted", When.NOT_SHAPED, stem -> stem.fitted(2));
        noState("inside", When.NOT_SHAPED, stem -> stem.inside(2, 1000, -1000));
        noState("wholes", When.NOT_SHAPED, stem -> stem.wholes(2));
        noState("volume", When.NOT_SHAPED, StemShapes::volume);
        noState("taper", When.NOT_SHAPED, StemShapes::taper);
        noState("sweep", When.NOT_SHAPED, StemShapes::sweep);
        noState("cls", When.NOT_SHAPED, StemShapes::cls);
        noState("keep", When.NOT_SHAPED, StemShapes::keep);
        for (int turn = 0; turn < 4; turn++) {
            int quarters = turn;
            noState("apart by " + turn, When.NOT_KEPT, stem -> stem.apart(quarters));
        }
        noState("match", When.NOT_KEPT, StemShapes::match);
        for (int kind = 0; kind < 5; kind++) {
            int aKind = kind;
            noState("rule of kind " + kind, When.FULL, stem -> stem.rule(aKind, 5, 100));
        }
        noState("rule of no number", When.FULL, stem -> stem.rule(0, NAN, 0));
    }

    private static void noRange(String name, Consumer<StemShapes> call) {
        REFUSALS.add(new Refusal(name, When.ALWAYS, ArrayIndexOutOfBoundsException.class, call));
    }

    private static void noArgument(String name, Consumer<StemShapes> call) {
        REFUSALS.add(new Refusal(name, When.ALWAYS, IllegalArgumentException.class, call));
    }

    private static void noState(String name, When when, Consumer<StemShapes> call) {
        REFUSALS.add(new Refusal(name, when, IllegalStateException.class, call));
    }
}
