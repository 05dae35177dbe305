/** Promises 1 (a new object), 2 (aim), 3 (shadow), 4 (lift), 13 (rule) and 18 (law). */
public final class TellTest {
    private static final double[] NOT_NUMBERS = {
        Double.NaN, Double.POSITIVE_INFINITY, Double.NEGATIVE_INFINITY, Double.MAX_VALUE
    };
    private static final Due DUE = new Due();

    public static void main(String[] args) {
        newObjectHasNearestSizes();
        newObjectIsEmpty();
        aimTakesDirections();
        aimRefuses();
        shadowIsToldAnew();
        shadowRefuses();
        liftTakesAway();
        liftRefuses();
        ruleCounts();
        ruleRefuses();
        lawMeasures();
        lawRefuses();
        DUE.end();
    }

    private static void newObjectHasNearestSizes() {
        int[] wishes = {Integer.MIN_VALUE, -1, 0, 1, 2, 7, 8, 9, 15, 16, 17, Integer.MAX_VALUE};
        int[] slices = {1, 1, 1, 1, 2, 7, 8, 9, 15, 16, 16, 16};
        int[] views = {1, 1, 1, 1, 2, 7, 8, 8, 8, 8, 8, 8};
        for (int i = 0; i < wishes.length; i++) {
            for (int j = 0; j < wishes.length; j++) {
                String name = "new StemShapes(" + wishes[i] + ", " + wishes[j] + ") ";
                StemShapes stem = new StemShapes(wishes[i], wishes[j]);
                int n = slices[i];
                int m = views[j];
                DUE.answer(name + "lift of the last", stem.lift(n - 1, m - 1), false);
                DUE.noRange(name + "lift of slice " + n, () -> stem.lift(n, 0));
                DUE.noRange(name + "lift of view " + m, () -> stem.lift(0, m));
            }
        }
    }

    private static void newObjectIsEmpty() {
        StemShapes stem = new StemShapes(16, 8);
        DUE.answer("NONE", StemShapes.NONE, -1);
        for (int slice = 0; slice < 16; slice++) {
            for (int view = 0; view < 8; view++) {
                DUE.answer("lift in a new object", stem.lift(slice, view), false);
            }
        }
        DUE.noState("volume() before a run", stem::volume);
        DUE.answer("run() without shadows", stem.run(), 0);
        DUE.noState("volume() without a fitted slice", stem::volume);
        DUE.answer("the first rule", stem.rule(0, 0, 0), 1);

        StemShapes unaimed = new StemShapes(1, 2);
        unaimed.shadow(0, 0, 6, 8);
        unaimed.shadow(0, 1, 6, 8);
        DUE.answer("run() of two views that are 1, 0", unaimed.run(), 0);
        unaimed.aim(1, 0, 1);
        DUE.answer("run() of a view that is 1, 0 and an aimed one", unaimed.run(), 1);
        DUE.answer("x by the view that is 1, 0", unaimed.shape(0, 0), 7);
        DUE.answer("radius by the view that is 1, 0", unaimed.shape(0, 2), 1);
    }

    private static void aimTakesDirections() {
        StemShapes stem = crossed(2);
        stem.run();
        stem.aim(0, 16, 0);
        DUE.noState("volume() behind aim", stem::volume);
        DUE.answer("run() behind aim", stem.run(), 2);
        DUE.answer("x behind aim(0, 16, 0)", stem.shape(0, 0), 0.25);
        stem.aim(0, -16, 0);
        stem.run();
        DUE.answer("x behind aim(0, -16, 0)", stem.shape(0, 0), -0.25);
        stem.aim(0, 1, 0);
        stem.aim(1, 0, 16);
        stem.run();
        DUE.answer("y behind aim(1, 0, 16)", stem.shape(0, 1), 0.5);
        stem.aim(1, 0, -16);
        stem.run();
        DUE.answer("y behind aim(1, 0, -16)", stem.shape(0, 1), -0.5);
        stem.aim(1, 0, -16);
        DUE.noState("sweep() behind the same aim again", stem::sweep);
    }

    private static void aimRefuses() {
        StemShapes stem = crossed(2);
        stem.run();
        double beyond = Math.nextUp(16.0);
        DUE.noRange("aim(-1, 1, 0)", () -> stem.aim(-1, 1, 0));
        DUE.noRange("aim(2, 1, 0)", () -> stem.aim(2, 1, 0));
        DUE.noRange("aim(MIN, 99, 99)", () -> stem.aim(Integer.MIN_VALUE, 99, 99));
        DUE.noRange("aim(MAX, 0, 0)", () -> stem.aim(Integer.MAX_VALUE, 0, 0));
        DUE.noArgument("aim(0, beyond, 1)", () -> stem.aim(0, beyond, 1));
        DUE.noArgument("aim(0, -beyond, 1)", () -> stem.aim(0, -beyond, 1));
        DUE.noArgument("aim(0, 1, beyond)", () -> stem.aim(0, 1, beyond));
        DUE.noArgument("aim(0, 1, -beyond)", () -> stem.aim(0, 1, -beyond));
        DUE.noArgument("aim(0, 0, 0)", () -> stem.aim(0, 0, 0));
        DUE.noArgument("aim(0, -0, 0)", () -> stem.aim(0, -0.0, 0));
        DUE.noArgument("aim(0, -0, -0)", () -> stem.aim(0, -0.0, -0.0));
        for (double bad : NOT_NUMBERS) {
            DUE.noArgument("aim(0, " + bad + ", 1)", () -> stem.aim(0, bad, 1));
            DUE.noArgument("aim(0, 1, " + bad + ")", () -> stem.aim(0, 1, bad));
        }
        unchanged("refused aims", stem);
    }

    private static void shadowIsToldAnew() {
        StemShapes stem = crossed(2);
        stem.run();
        stem.shadow(0, 0, -1000, 1000);
        DUE.noState("taper() behind shadow", stem::taper);
        DUE.answer("run() behind shadow", stem.run(), 2);
        DUE.answer("x behind shadow anew", stem.shape(0, 0), 0);
        DUE.answer("radius behind shadow anew", stem.shape(0, 2), 500.5);
        stem.shadow(0, 0, 1000, 1000);
        stem.run();
        DUE.answer("x behind a shadow of no breadth", stem.shape(0, 0), 1000);
        DUE.answer("radius behind a shadow of no breadth", stem.shape(0, 2), 0.5);
        stem.shadow(0, 0, -1000, -1000);
        stem.run();
        DUE.answer("x of the farthest shadow", stem.shape(0, 0), -1000);
        DUE.answer("x of the other slice", stem.shape(1, 0), 4);
        stem.shadow(0, 0, 0.0, -0.0);
        DUE.answer("run() behind a shadow from 0 to -0", stem.run(), 2);
        stem.shadow(0, 0, 0, 0);
        DUE.noState("cls() behind the same shadow again", stem::cls);
    }

    private static void shadowRefuses() {
        StemShapes stem = crossed(2);
        stem.run();
        double beyond = Math.nextUp(1000.0);
        DUE.noRange("shadow(-1, 0, 1, 2)", () -> stem.shadow(-1, 0, 1, 2));
        DUE.noRange("shadow(2, 0, 1, 2)", () -> stem.shadow(2, 0, 1, 2));
        DUE.noRange("shadow(0, -1, 1, 2)", () -> stem.shadow(0, -1, 1, 2));
        DUE.noRange("shadow(0, 2, 1, 2)", () -> stem.shadow(0, 2, 1, 2));
        DUE.noRange("shadow(1, -1, 1, 2)", () -> stem.shadow(1, -1, 1, 2));
        DUE.noRange("shadow(0, 2, 2, 1)", () -> stem.shadow(0, 2, 2, 1));
        DUE.noRange("shadow(MIN, 0, beyond, 1)",
                () -> stem.shadow(Integer.MIN_VALUE, 0, beyond, 1));
        DUE.noArgument("shadow(0, 0, 1, before 1)",
                () -> stem.shadow(0, 0, 1, Math.nextDown(1.0)));
        DUE.noArgument("shadow(0, 0, -beyond, 0)", () -> stem.shadow(0, 0, -beyond, 0));
        DUE.noArgument("shadow(0, 0, 0, beyond)", () -> stem.shadow(0, 0, 0, beyond));
        DUE.noArgument("shadow(0, 0, beyond, beyond)", () -> stem.shadow(0, 0, beyond, beyond));
        DUE.noArgument("shadow(0, 0, -beyond, -beyond)",
                () -> stem.shadow(0, 0, -beyond, -beyond));
        for (double bad : NOT_NUMBERS) {
            DUE.noArgument("shadow(0, 0, " + bad + ", 1)", () -> stem.shadow(0, 0, bad, 1));
            DUE.noArgument("shadow(0, 0, 1, " + bad + ")", () -> stem.shadow(0, 0, 1, bad));
        }
        unchanged("refused shadows", stem);
    }

    private static void liftTakesAway() {
        StemShapes stem = crossed(2);
        stem.run();
        DUE.answer("lift(0, 1)", stem.lift(0, 1), true);
        DUE.noState("volume() behind lift", stem::volume);
        DUE.answer("lift(0, 1) again", stem.lift(0, 1), false);
        DUE.noState("volume() behind lift again", stem::volume);
        DUE.answer("run() behind lift", stem.run(), 1);
        DUE.answer("volume() behind run", stem.volume() > 0, true);
        DUE.answer("lift(0, 1) behind run", stem.lift(0, 1), false);
        DUE.answer("fitted(0) behind a lift of nothing", stem.fitted(0), false);
        stem.shadow(0, 1, 0, 1);
        DUE.answer("lift(0, 1) behind shadow", stem.lift(0, 1), true);
        DUE.answer("lift(1, 1)", stem.lift(1, 1), true);
        DUE.answer("run() behind both lifts", stem.run(), 0);
    }

    private static void liftRefuses() {
        StemShapes stem = crossed(2);
        stem.run();
        DUE.noRange("lift(-1, 0)", () -> stem.lift(-1, 0));
        DUE.noRange("lift(2, 0)", () -> stem.lift(2, 0));
        DUE.noRange("lift(0, -1)", () -> stem.lift(0, -1));
        DUE.noRange("lift(0, 2)", () -> stem.lift(0, 2));
        DUE.noRange("lift(1, -1)", () -> stem.lift(1, -1));
        DUE.noRange("lift(MAX, MAX)", () -> stem.lift(Integer.MAX_VALUE, Integer.MAX_VALUE));
        unchanged("refused lifts", stem);
    }

    private static void ruleCounts() {
        StemShapes stem = crossed(2);
        stem.run();
        double[] limits = {
            0, Double.NaN, Double.POSITIVE_INFINITY, Double.NEGATIVE_INFINITY, -0.0, 1e308
        };
        for (int i = 0; i < limits.length; i++) {
            DUE.answer("rule number " + i, stem.rule(i % 5, limits[i], i * 20), i + 1);
        }
        unchanged("six rules", stem);
        DUE.noState("rule number 7", () -> stem.rule(0, 0, 0));
        DUE.noArgument("rule number 7 of a wrong kind", () -> stem.rule(5, 0, 0));
        DUE.noArgument("rule number 7 of a wrong class", () -> stem.rule(0, 0, 101));
        DUE.noState("rule number 7, again", () -> stem.rule(4, 1000, 100));
    }

    private static void ruleRefuses() {
        StemShapes stem = crossed(2);
        stem.run();
        DUE.noArgument("rule(-1, 0, 0)", () -> stem.rule(-1, 0, 0));
        DUE.noArgument("rule(5, 0, 0)", () -> stem.rule(5, 0, 0));
        DUE.noArgument("rule(0, 0, -1)", () -> stem.rule(0, 0, -1));
        DUE.noArgument("rule(0, 0, 101)", () -> stem.rule(0, 0, 101));
        DUE.noArgument("rule(MAX, 0, MIN)",
                () -> stem.rule(Integer.MAX_VALUE, 0, Integer.MIN_VALUE));
        DUE.answer("cls() behind refused rules", stem.cls(), -1);
        DUE.answer("the first rule behind refused ones", stem.rule(4, 0, 100), 1);
        DUE.answer("cls() of class 100", stem.cls(), 100);
        unchanged("refused rules", stem);
        DUE.answer("a rule before a run", new StemShapes(1, 1).rule(0, 0, 0), 1);
    }

    private static void lawMeasures() {
        StemShapes stem = new StemShapes(1, 1);
        DUE.answer("law(0, 1, 0)", stem.law(0, 1, 0), 0);
        DUE.answer("law(99, 100, 0)", stem.law(99, 100, 0), 0);
        DUE.answer("law(100, 100, 100)", stem.law(100, 100, 100), 100);
        DUE.answer("law(199, 100, 100)", stem.law(199, 100, 100), 100);
        DUE.answer("law(199, 100, 101)", stem.law(199, 100, 101), 0);
        DUE.answer("law(1000000000, 1000000, 0)", stem.law(1000000000, 1000000, 0), 1000000000);
        DUE.answer("law(999999999, 1000000, 0)", stem.law(999999999, 1000000, 0), 999000000);
        DUE.answer("law(7, 1, 7)", stem.law(7, 1, 7), 7);
        DUE.answer("law(7, 1, MAX)", stem.law(7, 1, Long.MAX_VALUE), 0);
    }

    private static void lawRefuses() {
        StemShapes stem = crossed(2);
        stem.run();
        long[][] wrongs = {
            {-1, 1, 0}, {1000000001L, 1, 0}, {Long.MIN_VALUE, 1, 0}, {Long.MAX_VALUE, 1, 0},
            {5, 0, 0}, {5, -1, 0}, {5, 1000001, 0}, {5, Long.MIN_VALUE, 0}, {5, 1L << 32, 0},
            {5, 1, -1}, {5, 1, Long.MIN_VALUE}
        };
        for (long[] w : wrongs) {
            DUE.noArgument("law(" + w[0] + ", " + w[1] + ", " + w[2] + ")",
                    () -> stem.law(w[0], w[1], w[2]));
        }
        unchanged("refused laws", stem);
    }

    /** Slice i is a round of radius 1, its centre at 4, 8. */
    private static StemShapes crossed(int slices) {
        StemShapes stem = new StemShapes(slices, 2);
        stem.aim(1, 0, 1);
        for (int slice = 0; slice < slices; slice++) {
            stem.shadow(slice, 0, 3, 5);
            stem.shadow(slice, 1, 7, 9);
        }
        return stem;
    }

    /** What crossed(2) was is run still, and another run finds it as it was. */
    private static void unchanged(String behind, StemShapes stem) {
        for (int turn = 0; turn < 2; turn++) {
            for (int slice = 0; slice < 2; slice++) {
                DUE.answer("x behind " + behind, stem.shape(slice, 0), 4);
                DUE.answer("y behind " + behind, stem.shape(slice, 1), 8);
                DUE.answer("radius behind " + behind, stem.shape(slice, 2), 1);
                DUE.answer("fitted behind " + behind, stem.fitted(slice), true);
            }
            DUE.answer("run behind " + behind, stem.run(), 2);
        }
    }
}
