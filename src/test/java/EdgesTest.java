/**
 * The sentences of promises 1 to 18 that name an edge: what is just allowed is done, and what is
 * just not allowed is refused. What a refused call leaves as it was, and which of two exceptions
 * comes first, stands in RefusedTest; which calls need a run, in RunStateTest.
 */
public final class EdgesTest {
    private static final int MIN = Integer.MIN_VALUE;
    private static final int MAX = Integer.MAX_VALUE;
    private static final double OVER_16 = Math.nextUp(16.0);
    private static final double OVER_1000 = Math.nextUp(1000.0);
    private static final double[] NEVER_AN_EXTENT = {
        Double.NaN, Double.POSITIVE_INFINITY, Double.NEGATIVE_INFINITY, Double.MAX_VALUE,
        -Double.MAX_VALUE
    };
    private static final Due DUE = new Due();

    public static void main(String[] args) {
        slicesAreTheNearest();
        viewsAreTheNearest();
        aimTakesItsEdges();
        aimRefusesBeyond();
        aimRefusesBothNought();
        shadowTakesItsEdges();
        shadowRefusesBeyond();
        shadowRefusesToLessThanFrom();
        shadowIsToldAnew();
        liftTellsWhetherItWas();
        runCountsNoneOneAndAll();
        whatEndsAtFour();
        fittedOfFirstAndLast();
        insideTakesItsEdges();
        insideRefusesBeyond();
        ruleTakesItsEdges();
        ruleTakesAnyLimit();
        ruleThatIsNoNumberNeverHolds();
        ruleRefusesBeyond();
        ruleRefusesTheSeventh();
        keepIsInPlaceOfWhatWas();
        keepIsLeftByLaterChanges();
        apartTakesItsEdges();
        apartAndMatchNeedAKeptOne();
        lawTakesAwayTheRest();
        lawIsNoughtBelowLeast();
        lawTakesItsEdges();
        lawRefusesBeyond();
        lawIsOfLongs();
        DUE.end();
    }

    /** "SLICES the nearest of 1 .. 16" */
    private static void slicesAreTheNearest() {
        int[][] wishes = {
            {MIN, 1}, {-16, 1}, {-1, 1}, {0, 1}, {1, 1}, {2, 2}, {15, 15}, {16, 16}, {17, 16},
            {32, 16}, {MAX, 16}
        };
        for (int[] wish : wishes) {
            String name = "of " + wish[0] + " slices";
            StemShapes stem = Stems.crossed(wish[0]);
            int last = wish[1] - 1;
            Stems.put(stem, last, 0, 0, 2);
            DUE.noRange("shadow behind the last " + name, () -> stem.shadow(last + 1, 0, 0, 1));
            DUE.noRange("lift behind the last " + name, () -> stem.lift(last + 1, 0));
            DUE.answer("run() " + name, stem.run(), 1);
            DUE.answer("volume() " + name, stem.volume(), 12.5625 * wish[1]);
            DUE.noRange("shape behind the last " + name, () -> stem.shape(last + 1, 0));
            DUE.noRange("fitted behind the last " + name, () -> stem.fitted(last + 1));
            DUE.noRange("inside behind the last " + name, () -> stem.inside(last + 1, 0, 0));
            DUE.noRange("wholes behind the last " + name, () -> stem.wholes(last + 1));
            DUE.answer("shape of the last " + name, stem.shape(last, 2), 2);
        }
    }

    /** "VIEWS of 1 .. 8" */
    private static void viewsAreTheNearest() {
        int[][] wishes = {
            {MIN, 1}, {-8, 1}, {-1, 1}, {0, 1}, {1, 1}, {2, 2}, {7, 7}, {8, 8}, {9, 8}, {16, 8},
            {MAX, 8}
        };
        for (int[] wish : wishes) {
            String name = "of " + wish[0] + " views";
            StemShapes stem = new StemShapes(2, wish[0]);
            int last = wish[1] - 1;
            stem.aim(last, 0, 1);
            DUE.noRange("aim behind the last " + name, () -> stem.aim(last + 1, 0, 1));
            DUE.noRange("shadow behind the last " + name, () -> stem.shadow(0, last + 1, 0, 1));
            DUE.noRange("lift behind the last " + name, () -> stem.lift(0, last + 1));
            stem.shadow(0, 0, 0, 2);
            stem.shadow(0, last, 0, 2);
            DUE.answer("run() " + name, stem.run(), wish[1] > 1 ? 1 : 0);
            DUE.answer("lift in the next slice " + name, stem.lift(1, 0), false);
        }
    }

    /** "p or q is not -16 .. 16" */
    private static void aimTakesItsEdges() {
        double[][] aims = {
            {16, 0}, {-16, 0}, {16, 16}, {-16, -16}, {16, -16}, {-16, 16}, {8, 16}, {8, -16}
        };
        for (double[] aim : aims) {
            StemShapes stem = new StemShapes(1, 2);
            stem.aim(0, aim[0], aim[1]);
            stem.aim(1, -aim[1], aim[0]);
            // The middles of the place 4, -2, seen along both.
            double one = 4 * aim[0] - 2 * aim[1];
            double two = -4 * aim[1] - 2 * aim[0];
            stem.shadow(0, 0, one, one);
            stem.shadow(0, 1, two, two);
            DUE.answer("run() with p = " + aim[0] + ", q = " + aim[1], stem.run(), 1);
            DUE.answer("x with p = " + aim[0] + ", q = " + aim[1], stem.shape(0, 0), 4);
            DUE.answer("y with p = " + aim[0] + ", q = " + aim[1], stem.shape(0, 1), -2);
        }
    }

    private static void aimRefusesBeyond() {
        StemShapes stem = new StemShapes(1, 2);
        for (double wrong : new double[] {OVER_16, -OVER_16, 17, -17, 1e300}) {
            DUE.noArgument("aim, p = " + wrong, () -> stem.aim(0, wrong, 1));
            DUE.noArgument("aim, q = " + wrong, () -> stem.aim(1, 1, wrong));
            DUE.noArgument("aim, p and q = " + wrong, () -> stem.aim(1, wrong, wrong));
        }
        for (double wrong : NEVER_AN_EXTENT) {
            DUE.noArgument("aim, p = " + wrong, () -> stem.aim(0, wrong, 1));
            DUE.noArgument("aim, q = " + wrong, () -> stem.aim(1, 1, wrong));
            DUE.noArgument("aim, p = " + wrong + ", q = 0", () -> stem.aim(0, wrong, 0));
            DUE.noArgument("aim, p = 0, q = " + wrong, () -> stem.aim(0, 0, wrong));
        }
    }

    /** "or both are 0" */
    private static void aimRefusesBothNought() {
        StemShapes stem = Stems.crossed(1);
        Stems.put(stem, 0, 1, 2, 3);
        for (double p : new double[] {0.0, -0.0}) {
            for (double q : new double[] {0.0, -0.0}) {
                DUE.noArgument("aim(0, " + p + ", " + q + ")", () -> stem.aim(0, p, q));
            }
        }
        stem.aim(0, Double.MIN_VALUE, 0);
        DUE.answer("run() with the least p", stem.run(), 0);
        stem.aim(0, 0, -Double.MIN_VALUE);
        DUE.answer("run() with the least q", stem.run(), 0);
        stem.aim(0, -1, 0);
        DUE.answer("run() with q = 0", stem.run(), 1);
        DUE.answer("x with p = -1", stem.shape(0, 0), -1);
    }

    /** "from or to is not -1000 .. 1000" */
    private static void shadowTakesItsEdges() {
        double[][] shadows = {
            {-1000, 1000, 0, 1000}, {-1000, -1000, -1000, 0}, {1000, 1000, 1000, 0},
            {999, 1000, 999.5, 0.5}, {-1000, -999, -999.5, 0.5}
        };
        for (double[] due : shadows) {
            StemShapes stem = Stems.crossed(1);
            String name = "a shadow of " + due[0] + " .. " + due[1];
            stem.shadow(0, 0, due[0], due[1]);
            stem.shadow(0, 1, due[0], due[1]);
            DUE.answer("run() of " + name, stem.run(), 1);
            DUE.answer("x of " + name, stem.shape(0, 0), due[2]);
            DUE.answer("y of " + name, stem.shape(0, 1), due[2]);
            DUE.answer("radius of " + name, stem.shape(0, 2), due[3]);
        }
    }

    private static void shadowRefusesBeyond() {
        StemShapes stem = new StemShapes(1, 1);
        for (double wrong : new double[] {OVER_1000, -OVER_1000, 1001, -1001, 1e300}) {
            refusesExtent(stem, wrong);
        }
        for (double wrong : NEVER_AN_EXTENT) {
            refusesExtent(stem, wrong);
        }
        DUE.answer("lift behind refused shadows", stem.lift(0, 0), false);
    }

    private static void refusesExtent(StemShapes stem, double wrong) {
        DUE.noArgument("shadow, from = " + wrong, () -> stem.shadow(0, 0, wrong, 1000));
        DUE.noArgument("shadow, to = " + wrong, () -> stem.shadow(0, 0, -1000, wrong));
        DUE.noArgument("shadow, from and to = " + wrong, () -> stem.shadow(0, 0, wrong, wrong));
    }

    /** "or to less than from" */
    private static void shadowRefusesToLessThanFrom() {
        StemShapes stem = new StemShapes(1, 1);
        for (double from : new double[] {1000, 1, 0, -1, -999}) {
            DUE.noArgument("shadow from " + from + " to just less",
                    () -> stem.shadow(0, 0, from, Math.nextDown(from)));
            DUE.answer("lift behind a refused shadow", stem.lift(0, 0), false);
            stem.shadow(0, 0, from, from);
            DUE.answer("lift behind a shadow of no breadth", stem.lift(0, 0), true);
        }
        DUE.noArgument("shadow(0, 0, 1000, -1000)", () -> stem.shadow(0, 0, 1000, -1000));
    }

    /** "A SHADOW (anew)." */
    private static void shadowIsToldAnew() {
        StemShapes stem = Stems.crossed(2);
        Stems.put(stem, 0, 1, 2, 3);
        Stems.put(stem, 1, 4, 5, 6);
        stem.shadow(0, 1, 10, 20);
        DUE.answer("run() behind a shadow anew", stem.run(), 2);
        DUE.answer("x of the other view", stem.shape(0, 0), 1);
        DUE.answer("y told anew", stem.shape(0, 1), 15);
        DUE.answer("radius told anew", stem.shape(0, 2), 4);
        DUE.answer("y of the other slice", stem.shape(1, 1), 5);
        DUE.answer("lift of what was told twice", stem.lift(0, 1), true);
        DUE.answer("lift of it again", stem.lift(0, 1), false);
    }

    /** "A shadow is there no more: whether it was" */
    private static void liftTellsWhetherItWas() {
        StemShapes stem = new StemShapes(16, 8);
        for (int slice = 0; slice < 16; slice++) {
            for (int view = 0; view < 8; view++) {
                stem.shadow(slice, view, 0, 0);
                DUE.answer("lift of the only one", stem.lift(slice, view), true);
                DUE.answer("lift of it again", stem.lift(slice, view), false);
            }
        }
        StemShapes last = new StemShapes(16, 8);
        last.shadow(15, 7, 1, 2);
        DUE.answer("lift beside the last place", last.lift(15, 6), false);
        DUE.answer("lift above the last place", last.lift(14, 7), false);
        DUE.answer("lift of the last place", last.lift(15, 7), true);
    }

    /** "how many are FITTED" */
    private static void runCountsNoneOneAndAll() {
        StemShapes stem = Stems.crossed(16);
        for (int slice = 0; slice < 16; slice++) {
            DUE.answer("run() of " + slice + " slices", stem.run(), slice);
            Stems.put(stem, slice, 0, 0, slice);
        }
        DUE.answer("run() of all", stem.run(), 16);
        DUE.answer("run() of the least object", new StemShapes(1, 1).run(), 0);
    }

    /** "CENTRE x (what = 0), y (1), RADIUS (2), RESIDUAL (3), AREA (4)" */
    private static void whatEndsAtFour() {
        StemShapes stem = new StemShapes(1, 3);
        stem.aim(1, 0, 1);
        stem.shadow(0, 0, 0, 2);
        stem.shadow(0, 1, 5, 11);
        stem.shadow(0, 2, 4, 8);
        DUE.answer("run()", stem.run(), 1);
        double[] due = {3.5, 8, 2, 12.5, 12.5625};
        for (int what = 0; what < 5; what++) {
            DUE.answer("shape(0, " + what + ")", stem.shape(0, what), due[what]);
        }
        for (int wrong : new int[] {-1, 5, MIN, MAX}) {
            DUE.noRange("shape(0, " + wrong + ")", () -> stem.shape(0, wrong));
        }
    }

    private static void fittedOfFirstAndLast() {
        StemShapes stem = Stems.crossed(16);
        Stems.put(stem, 0, 0, 0, 1);
        stem.run();
        DUE.answer("fitted(0)", stem.fitted(0), true);
        DUE.answer("fitted(15)", stem.fitted(15), false);
        stem.lift(0, 1);
        Stems.put(stem, 15, 0, 0, 1);
        stem.run();
        DUE.answer("fitted(0) behind lift", stem.fitted(0), false);
        DUE.answer("fitted(15) behind shadows", stem.fitted(15), true);
        DUE.noRange("fitted(-1)", () -> stem.fitted(-1));
        DUE.noRange("fitted(16)", () -> stem.fitted(16));
        DUE.noRange("wholes(-1)", () -> stem.wholes(-1));
        DUE.noRange("wholes(16)", () -> stem.wholes(16));
        DUE.answer("wholes(15)", stem.wholes(15), 5);
    }

    /** "x or y is not -1000 .. 1000" */
    private static void insideTakesItsEdges() {
        StemShapes stem = Stems.crossed(2);
        Stems.put(stem, 0, 0, 0, 1000);
        Stems.put(stem, 1, 1000, -1000, 0);
        stem.run();
        for (double edge : new double[] {1000, -1000}) {
            DUE.answer("inside(0, " + edge + ", 0)", stem.inside(0, edge, 0), true);
            DUE.answer("inside(0, 0, " + edge + ")", stem.inside(0, 0, edge), true);
            DUE.answer("inside(0, " + edge + ", edge)", stem.inside(0, edge, edge), false);
            DUE.answer("inside(1, " + edge + ", -edge)", stem.inside(1, edge, -edge), edge > 0);
        }
    }

    private static void insideRefusesBeyond() {
        StemShapes stem = Stems.crossed(1);
        Stems.put(stem, 0, 0, 0, 1000);
        stem.run();
        for (double wrong : new double[] {OVER_1000, -OVER_1000, 1001, -1001}) {
            DUE.noArgument("inside(0, " + wrong + ", 0)", () -> stem.inside(0, wrong, 0));
            DUE.noArgument("inside(0, 0, " + wrong + ")", () -> stem.inside(0, 0, wrong));
        }
        for (double wrong : NEVER_AN_EXTENT) {
            DUE.noArgument("inside(0, " + wrong + ", 0)", () -> stem.inside(0, wrong, 0));
            DUE.noArgument("inside(0, 0, " + wrong + ")", () -> stem.inside(0, 0, wrong));
        }
        DUE.noRange("inside(-1, 0, 0)", () -> stem.inside(-1, 0, 0));
        DUE.noRange("inside(1, 0, 0)", () -> stem.inside(1, 0, 0));
    }

    /** "kind is not 0 .. 4, or cls not 0 .. 100" */
    private static void ruleTakesItsEdges() {
        for (int kind = 0; kind < 5; kind++) {
            for (int cls : new int[] {0, 1, 99, 100}) {
                StemShapes stem = round();
                boolean isLeast = kind == 2 || kind == 3;
                DUE.answer("rule of kind " + kind, stem.rule(kind, isLeast ? 0 : 9, cls), 1);
                DUE.answer("cls() of kind " + kind + ", class " + cls, stem.cls(), cls);
            }
        }
    }

    /** "any limit" */
    private static void ruleTakesAnyLimit() {
        double most = Double.MAX_VALUE;
        double[] limits = {
            Double.NEGATIVE_INFINITY, -most, -1, most, Double.POSITIVE_INFINITY
        };
        for (int kind = 0; kind < 5; kind++) {
            boolean isLeast = kind == 2 || kind == 3;
            for (double limit : limits) {
                StemShapes stem = round();
                DUE.answer("rule of limit " + limit, stem.rule(kind, limit, 7), 1);
                DUE.answer("cls() of kind " + kind + ", limit " + limit, stem.cls(),
                        isLeast == limit < 0 ? 7 : StemShapes.NONE);
            }
        }
        for (double nought : new double[] {0.0, -0.0}) {
            for (int kind : new int[] {0, 1, 4}) {
                StemShapes stem = round();
                stem.rule(kind, nought, 7);
                DUE.answer("cls() of kind " + kind + ", limit " + nought, stem.cls(), 7);
            }
        }
    }

    /** "one that is no number never holds" */
    private static void ruleThatIsNoNumberNeverHolds() {
        for (int kind = 0; kind < 5; kind++) {
            StemShapes stem = round();
            DUE.answer("rule of no number", stem.rule(kind, Double.NaN, 7), 1);
            DUE.answer("cls() of kind " + kind + ", no number", stem.cls(), StemShapes.NONE);
            DUE.answer("rule behind one of no number", stem.rule(4, 0, 8), 2);
            DUE.answer("cls() behind a rule of no number", stem.cls(), 8);
        }
    }

    private static void ruleRefusesBeyond() {
        StemShapes stem = round();
        for (int wrong : new int[] {-1, 5, 6, MIN, MAX}) {
            DUE.noArgument("rule(" + wrong + ", 0, 0)", () -> stem.rule(wrong, 0, 0));
        }
        for (int wrong : new int[] {-1, 101, 256, MIN, MAX}) {
            DUE.noArgument("rule(4, 0, " + wrong + ")", () -> stem.rule(4, 0, wrong));
        }
        DUE.answer("cls() behind refused rules", stem.cls(), StemShapes.NONE);
        DUE.answer("the first rule behind refused ones", stem.rule(4, 0, 3), 1);
    }

    /** "IllegalStateException: there are 6." */
    private static void ruleRefusesTheSeventh() {
        StemShapes stem = round();
        for (int count = 1; count <= 5; count++) {
            DUE.answer("rule " + count, stem.rule(0, -1, count), count);
        }
        DUE.answer("rule 6", stem.rule(4, 0, 6), 6);
        for (int i = 0; i < 3; i++) {
            DUE.noState("rule 7", () -> stem.rule(4, 0, 7));
            DUE.answer("cls() behind a refused rule 7", stem.cls(), 6);
        }
        stem.shadow(0, 0, -1, 1);
        stem.run();
        DUE.noState("rule 7 behind another run", () -> stem.rule(4, 0, 7));
        DUE.answer("cls() behind another run", stem.cls(), 6);
    }

    /** "The stem is KEPT (in place of what was" */
    private static void keepIsInPlaceOfWhatWas() {
        StemShapes stem = round();
        for (int x = 1; x <= 3; x++) {
            stem.keep();
            Stems.put(stem, 0, 10 * x, 0, 1);
            stem.run();
            DUE.answer("apart(0) of the one kept last", stem.apart(0), 100);
        }
    }

    /** "later changes leave it as it is" */
    private static void keepIsLeftByLaterChanges() {
        StemShapes stem = round();
        stem.keep();
        stem.aim(0, 16, 1);
        stem.shadow(0, 0, 5, 9);
        stem.run();
        stem.lift(0, 0);
        stem.run();
        DUE.noState("apart(0) without a fitted slice", () -> stem.apart(0));
        DUE.noState("keep() without a fitted slice", stem::keep);
        stem.aim(0, 1, 0);
        Stems.put(stem, 0, 3, 4, 2);
        stem.run();
        DUE.answer("apart(0) of what was kept at 0, 0", stem.apart(0), 25);
    }

    /** "turn is not 0 .. 3" */
    private static void apartTakesItsEdges() {
        StemShapes stem = round();
        Stems.put(stem, 0, 1, 0, 1);
        stem.run();
        stem.keep();
        double[] due = {0, 2, 4, 2};
        for (int turn = 0; turn < 4; turn++) {
            DUE.answer("apart(" + turn + ")", stem.apart(turn), due[turn]);
        }
        for (int wrong : new int[] {-1, 4, 5, MIN, MAX}) {
            DUE.noArgument("apart(" + wrong + ")", () -> stem.apart(wrong));
        }
    }

    /** "there is no room, or none KEPT" */
    private static void apartAndMatchNeedAKeptOne() {
        StemShapes stem = round();
        for (int turn = 0; turn < 4; turn++) {
            int quarters = turn;
            DUE.noState("apart(" + turn + ") with none kept", () -> stem.apart(quarters));
        }
        DUE.noState("match() with none kept", stem::match);
        DUE.noArgument("apart(4) with none kept", () -> stem.apart(4));
        stem.keep();
        DUE.answer("match() with one kept", stem.match(), 0);
        StemShapes other = round();
        DUE.noState("match() with one kept by another object", other::match);
    }

    /** "length less the rest by unit" */
    private static void lawTakesAwayTheRest() {
        law(0, 5, 0, 0);
        law(4, 5, 0, 0);
        law(5, 5, 0, 5);
        law(6, 5, 0, 5);
        law(9, 5, 0, 5);
        law(10, 5, 0, 10);
        law(1234, 1, 0, 1234);
        law(999999, 1000000, 0, 0);
        law(1000000, 1000000, 0, 1000000);
        law(1000000000, 999999, 0, 999999000);
        law(1000000000, 7, 0, 999999994);
    }

    /** "but 0 if that is less than least" */
    private static void lawIsNoughtBelowLeast() {
        law(19, 5, 14, 15);
        law(19, 5, 15, 15);
        law(19, 5, 16, 0);
        law(19, 5, 19, 0);
        law(0, 5, 0, 0);
        law(0, 5, 1, 0);
        law(4, 5, 1, 0);
    }

    /** "length is not 0 .. 1000000000, unit not 1 .. 1000000, or least below 0" */
    private static void lawTakesItsEdges() {
        law(0, 1, 0, 0);
        law(0, 1000000, Long.MAX_VALUE, 0);
        law(1000000000, 1, 1000000000, 1000000000);
        law(1000000000, 1, 1000000001, 0);
        law(1000000000, 1000000, 0, 1000000000);
        law(999999999, 1000000, 999000000, 999000000);
        law(999999999, 1000000, 999000001, 0);
    }

    private static void lawRefusesBeyond() {
        long[] lengths = {-1, 1000000001, Long.MIN_VALUE, Long.MAX_VALUE};
        for (long wrong : lengths) {
            lawRefuses(wrong, 1, 0);
        }
        long[] units = {0, -1, 1000001, Long.MIN_VALUE, Long.MAX_VALUE};
        for (long wrong : units) {
            lawRefuses(10, wrong, 0);
        }
        lawRefuses(10, 1, -1);
        lawRefuses(10, 1, Long.MIN_VALUE);
        lawRefuses(-1, 0, -1);
    }

    /** Numbers that would be allowed, or be others, if they were cut to 32 bits. */
    private static void lawIsOfLongs() {
        long wrap = 1L << 32;
        lawRefuses(wrap, 1, 0);
        lawRefuses(wrap + 10, 1, 0);
        lawRefuses(-wrap + 10, 1, 0);
        lawRefuses(10, wrap + 1, 0);
        lawRefuses(10, -wrap + 1, 0);
        lawRefuses(10, 1, -wrap);
        lawRefuses(10, 1, -wrap + 1);
        law(10, 1, wrap, 0);
        law(10, 1, wrap + 1, 0);
        law(10, 1, Long.MAX_VALUE, 0);
    }

    private static void law(long length, long unit, long least, long due) {
        String name = "law(" + length + ", " + unit + ", " + least + ")";
        DUE.answer(name + " of a new object", new StemShapes(1, 1).law(length, unit, least), due);
        DUE.answer(name + " of another one", States.FULL.make().law(length, unit, least), due);
    }

    private static void lawRefuses(long length, long unit, long least) {
        StemShapes stem = new StemShapes(1, 1);
        DUE.noArgument("law(" + length + ", " + unit + ", " + least + ")",
                () -> stem.law(length, unit, least));
    }

    /** One slice, run: its centre at 0, 0, its radius 1. */
    private static StemShapes round() {
        StemShapes stem = Stems.crossed(1);
        Stems.put(stem, 0, 0, 0, 1);
        stem.run();
        return stem;
    }
}
