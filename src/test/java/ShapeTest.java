/** Promises 5 (run), 6 (shape), 7 (fitted), 8 (inside) and 9 (wholes). */
public final class ShapeTest {
    private static final Due DUE = new Due();

    public static void main(String[] args) {
        runCountsFitted();
        runNeedsTwoViewsThatDiffer();
        runMends();
        runIsAnsweredAgain();
        shapeIsReckonedInOrder();
        shapeHasResidual();
        radiusUsesRoot();
        shapeRefuses();
        fittedTells();
        fittedRefuses();
        insideHasItsEdge();
        insideRefuses();
        wholesCounts();
        wholesRefuses();
        DUE.end();
    }

    private static void runCountsFitted() {
        StemShapes stem = Stems.crossed(16);
        DUE.answer("run() of nothing", stem.run(), 0);
        for (int slice = 15; slice >= 0; slice--) {
            Stems.put(stem, slice, slice, -slice, 2);
            DUE.answer("run() of slices from " + slice, stem.run(), 16 - slice);
        }
        for (int slice = 0; slice < 16; slice++) {
            shapeIs("slice " + slice, stem, slice, slice, -slice, 2, 0);
        }
    }

    private static void runNeedsTwoViewsThatDiffer() {
        StemShapes one = new StemShapes(1, 1);
        one.shadow(0, 0, -1, 1);
        DUE.answer("run() of one view", one.run(), 0);

        StemShapes stem = new StemShapes(1, 3);
        stem.shadow(0, 0, -1, 1);
        stem.shadow(0, 1, -1, 1);
        stem.shadow(0, 2, -1, 1);
        DUE.answer("run() of three views of one direction", stem.run(), 0);
        DUE.noState("shape behind it", () -> stem.shape(0, 0));
        double edge = 1.0 / 1024.0;
        stem.lift(0, 2);
        stem.aim(1, 0, edge);
        DUE.answer("run() with DET = 2^-20", stem.run(), 1);
        stem.aim(1, 0, -edge);
        DUE.answer("run() with DET = 2^-20 of a turned view", stem.run(), 1);
        stem.aim(1, 0, Math.nextDown(edge));
        DUE.answer("run() with DET below 2^-20", stem.run(), 0);
        stem.aim(2, 0, 1);
        DUE.answer("run() with an aim that has no shadow", stem.run(), 0);
        stem.shadow(0, 2, 0, 0);
        DUE.answer("run() with a third shadow", stem.run(), 1);
    }

    private static void runMends() {
        StemShapes stem = Stems.crossed(8);
        Stems.put(stem, 2, 8, -4, 2);
        Stems.put(stem, 6, 0, 12, 10);
        stem.shadow(3, 0, 500, 600);
        DUE.answer("run() of two slices of eight", stem.run(), 2);
        shapeIs("slice 0", stem, 0, 8, -4, 2, 0);
        shapeIs("slice 1", stem, 1, 8, -4, 2, 0);
        shapeIs("slice 2", stem, 2, 8, -4, 2, 0);
        shapeIs("slice 3", stem, 3, 6, 0, 4, 0);
        shapeIs("slice 4", stem, 4, 4, 4, 6, 0);
        shapeIs("slice 5", stem, 5, 2, 8, 8, 0);
        shapeIs("slice 6", stem, 6, 0, 12, 10, 0);
        shapeIs("slice 7", stem, 7, 0, 12, 10, 0);
        Stems.put(stem, 4, 20, 20, 1);
        DUE.answer("run() of three slices", stem.run(), 3);
        shapeIs("slice 3 by the nearest", stem, 3, 14, 8, 1.5, 0);
        shapeIs("slice 5 by the nearest", stem, 5, 10, 16, 5.5, 0);
        stem.lift(4, 1);
        stem.lift(6, 0);
        DUE.answer("run() of one slice", stem.run(), 1);
        shapeIs("slice 7 by the only one", stem, 7, 8, -4, 2, 0);
        shapeIs("slice 4, fitted once, now mended", stem, 4, 8, -4, 2, 0);
    }

    private static void runIsAnsweredAgain() {
        StemShapes stem = Stems.awkward();
        DUE.answer("run()", stem.run(), 3);
        DUE.answer("run() again", stem.run(), 3);
        DUE.answer("volume() behind both", stem.volume(), 191.26499117206555);
        Stems.changeAwkward(stem).run();
        DUE.answer("volume() of another stem", stem.volume(), 126.57288093610123);
        for (int i : new int[] {1, 4, 5}) {
            stem.lift(i, 0);
            stem.lift(i, 1);
            stem.lift(i, 2);
        }
        DUE.answer("run() without enough shadows", stem.run(), 0);
        DUE.noState("volume() behind it", stem::volume);
    }

    private static void shapeIsReckonedInOrder() {
        double[][] due = {
            {0.017296445931623446, 0.0072393029524584485, 2.696556553901857, 0.0,
                22.836794795728167},
            {0.017296445931623446, 0.0072393029524584485, 2.696556553901857, 2.41657184487546,
                22.836794795728167},
            {0.06825247342905347, -0.14228682413468693, 2.75018414265974, 0.0,
                23.754157445718043},
            {0.1192085009264835, -0.2918129512218323, 2.8038117314176234, 0.0,
                24.689584457378956},
            {0.17016452842391352, -0.4413390783089777, 2.8574393201755064, 22.060162081640787,
                25.64307583071089},
            {0.20781575090558246, -0.4791308722276437, 3.3739908630239897, 62.172800180475846,
                35.75229192340067},
            {0.20781575090558246, -0.4791308722276437, 3.3739908630239897, 0.0,
                35.75229192340067},
        };
        StemShapes stem = Stems.awkward();
        stem.run();
        for (int slice = 0; slice < 7; slice++) {
            for (int what = 0; what < 5; what++) {
                DUE.answer("shape(" + slice + ", " + what + ")", stem.shape(slice, what),
                        due[slice][what]);
            }
        }
    }

    private static void shapeHasResidual() {
        StemShapes stem = new StemShapes(1, 4);
        stem.aim(1, 0, 1);
        stem.aim(3, 0, 1);
        stem.shadow(0, 0, 1, 3);
        stem.shadow(0, 1, 0, 0);
        stem.shadow(0, 2, 5, 7);
        stem.shadow(0, 3, 1, 3);
        DUE.answer("run()", stem.run(), 1);
        shapeIs("a slice of middles 2, 6 and 0, 2", stem, 0, 4, 1, 0.75, 10);

        StemShapes awkward = Stems.awkward();
        awkward.run();
        awkward.lift(5, 0);
        awkward.lift(5, 1);
        awkward.lift(5, 2);
        awkward.run();
        DUE.answer("residual of a slice that was fitted and is mended", awkward.shape(5, 3), 0);
    }

    private static void radiusUsesRoot() {
        StemShapes stem = new StemShapes(1, 3);
        stem.aim(0, 3, 4);
        stem.aim(1, -8, 6);
        stem.shadow(0, 0, -10, 10);
        stem.shadow(0, 1, -40, 40);
        stem.run();
        DUE.answer("radius by directions of 5 and 10", stem.shape(0, 2), 3);
        stem.aim(2, 1e-200, 0);
        stem.shadow(0, 2, -3, 3);
        stem.aim(0, 1, 0);
        stem.aim(1, 0, 1);
        stem.shadow(0, 0, 0, 0);
        stem.shadow(0, 1, 0, 0);
        stem.run();
        DUE.answer("radius by ROOT(0), which is 2^-61", stem.shape(0, 2), 0x1p61);
    }

    private static void shapeRefuses() {
        StemShapes stem = Stems.crossed(3);
        refusesSlices("shape before a run", 3, slice -> stem.shape(slice, 0));
        DUE.noRange("shape(0, 5) before a run", () -> stem.shape(0, 5));
        DUE.noState("shape(0, 4) before a run", () -> stem.shape(0, 4));
        stem.run();
        DUE.noState("shape(0, 0) without a fitted slice", () -> stem.shape(0, 0));
        Stems.put(stem, 1, 4, 5, 6);
        stem.run();
        refusesSlices("shape", 3, slice -> stem.shape(slice, 0));
        refusesSlices("shape of no part", 3, slice -> stem.shape(slice, 9));
        DUE.noRange("shape(0, -1)", () -> stem.shape(0, -1));
        DUE.noRange("shape(0, 5)", () -> stem.shape(0, 5));
        DUE.noRange("shape(0, MIN)", () -> stem.shape(0, Integer.MIN_VALUE));
        DUE.noRange("shape(0, MAX)", () -> stem.shape(0, Integer.MAX_VALUE));
        shapeIs("slice 0 behind refusals", stem, 0, 4, 5, 6, 0);
    }

    private static void fittedTells() {
        StemShapes stem = Stems.crossed(4);
        Stems.put(stem, 0, 0, 0, 1);
        Stems.put(stem, 2, 0, 0, 0);
        stem.shadow(3, 1, 0, 1);
        stem.run();
        boolean[] due = {true, false, true, false};
        for (int slice = 0; slice < 4; slice++) {
            DUE.answer("fitted(" + slice + ")", stem.fitted(slice), due[slice]);
        }
        stem.shadow(3, 0, 0, 1);
        stem.lift(0, 0);
        stem.run();
        DUE.answer("fitted(3) behind another shadow", stem.fitted(3), true);
        DUE.answer("fitted(0) behind lift", stem.fitted(0), false);
    }

    private static void fittedRefuses() {
        StemShapes stem = Stems.crossed(2);
        refusesSlices("fitted before a run", 2, stem::fitted);
        DUE.noState("fitted(0) before a run", () -> stem.fitted(0));
        stem.run();
        DUE.noState("fitted(1) without a fitted slice", () -> stem.fitted(1));
        Stems.put(stem, 0, 0, 0, 1);
        DUE.noState("fitted(0) before another run", () -> stem.fitted(0));
        stem.run();
        refusesSlices("fitted", 2, stem::fitted);
    }

    private static void insideHasItsEdge() {
        StemShapes stem = Stems.crossed(2);
        Stems.put(stem, 0, 100, -200, 5);
        Stems.put(stem, 1, 0, 0, 1000);
        stem.run();
        DUE.answer("the centre", stem.inside(0, 100, -200), true);
        DUE.answer("the edge by 3 and 4", stem.inside(0, 103, -196), true);
        DUE.answer("the edge by -4 and -3", stem.inside(0, 96, -203), true);
        DUE.answer("the edge by 5", stem.inside(0, 100, -205), true);
        DUE.answer("beyond the edge in x", stem.inside(0, 105 + 1.0 / 64, -200), false);
        DUE.answer("beyond the edge in y", stem.inside(0, 100, -195 + 1.0 / 64), false);
        DUE.answer("x and y are not one another", stem.inside(0, -200, 100), false);
        DUE.answer("the farthest x", stem.inside(1, 1000, 0), true);
        DUE.answer("the farthest y", stem.inside(1, 0, -1000), true);
        DUE.answer("the farthest corner", stem.inside(1, -1000, 1000), false);
        Stems.put(stem, 0, 7, 7, 0);
        stem.run();
        DUE.answer("a slice of no breadth", stem.inside(0, 7, 7), true);
        DUE.answer("beside a slice of no breadth", stem.inside(0, 7, Math.nextUp(7.0)), false);
    }

    private static void insideRefuses() {
        StemShapes stem = Stems.crossed(2);
        double beyond = Math.nextUp(1000.0);
        refusesSlices("inside before a run", 2, slice -> stem.inside(slice, 2000, 0));
        DUE.noArgument("inside(0, beyond, 0) before a run", () -> stem.inside(0, beyond, 0));
        DUE.noState("inside(0, 0, 0) before a run", () -> stem.inside(0, 0, 0));
        Stems.put(stem, 0, 0, 0, 1000);
        stem.run();
        refusesSlices("inside", 2, slice -> stem.inside(slice, 0, 0));
        double[] wrongs = {
            beyond, -beyond, Double.NaN, Double.POSITIVE_INFINITY, Double.NEGATIVE_INFINITY
        };
        for (double wrong : wrongs) {
            DUE.noArgument("inside(0, " + wrong + ", 0)", () -> stem.inside(0, wrong, 0));
            DUE.noArgument("inside(0, 0, " + wrong + ")", () -> stem.inside(0, 0, wrong));
        }
        DUE.answer("inside(1, 0, 0) behind refusals", stem.inside(1, 0, 0), true);
    }

    private static void wholesCounts() {
        StemShapes stem = Stems.crossed(8);
        Stems.put(stem, 0, 0, 0, 0);
        Stems.put(stem, 1, 0.5, 0, 0.25);
        Stems.put(stem, 2, 0, 0, 1);
        Stems.put(stem, 3, 0, 0, 5);
        Stems.put(stem, 4, 40, -40, 1);
        Stems.put(stem, 5, 0, 0, 900);
        Stems.put(stem, 6, 41, 0, 1);
        Stems.put(stem, 7, 0, -42, 1.5);
        stem.run();
        int[] due = {1, 0, 5, 81, 3, 6561, 1, 0};
        for (int slice = 0; slice < 8; slice++) {
            DUE.answer("wholes(" + slice + ")", stem.wholes(slice), due[slice]);
        }
        StemShapes awkward = Stems.awkward();
        awkward.run();
        int[] dueOfAwkward = {21, 21, 22, 24, 26, 36, 36};
        for (int slice = 0; slice < 7; slice++) {
            DUE.answer("wholes(" + slice + ") of awkward", awkward.wholes(slice),
                    dueOfAwkward[slice]);
        }
    }

    private static void wholesRefuses() {
        StemShapes stem = Stems.crossed(2);
        refusesSlices("wholes before a run", 2, stem::wholes);
        DUE.noState("wholes(0) before a run", () -> stem.wholes(0));
        Stems.put(stem, 0, 0, 0, 1);
        stem.run();
        refusesSlices("wholes", 2, stem::wholes);
        stem.lift(0, 0);
        DUE.noState("wholes(0) behind lift", () -> stem.wholes(0));
    }

    private interface OfSlice {
        Object ask(int slice);
    }

    private static void refusesSlices(String name, int slices, OfSlice call) {
        for (int slice : new int[] {-1, slices, Integer.MIN_VALUE, Integer.MAX_VALUE}) {
            DUE.noRange(name + ", slice " + slice, () -> call.ask(slice));
        }
    }

    private static void shapeIs(String name, StemShapes stem, int slice, double... due) {
        for (int what = 0; what < 4; what++) {
            DUE.answer(name + ", shape " + what, stem.shape(slice, what), due[what]);
        }
        DUE.answer(name + ", area", stem.shape(slice, 4), 3.140625 * due[2] * due[2]);
    }
}
