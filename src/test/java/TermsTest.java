/** The sentences of the document's "Terms" that name an edge, each with a test of its own. */
public final class TermsTest {
    private static final double DET_EDGE = 0x1p-20;
    private static final Due DUE = new Due();

    public static void main(String[] args) {
        lastCallIsAnswered();
        viewsAreOneNoughtAtFirst();
        noShadowIsThereAtFirst();
        shadowMayBeOfNoBreadth();
        oneViewIsTooFew();
        twoViewsAreEnough();
        allViewsCount();
        detBelowItsEdgeIsNotFitted();
        parallelViewsAreNotFitted();
        rootIsThatOfSixtySteps();
        mendedBetweenTwo();
        mendedByTheOneBefore();
        mendedByTheOneBehind();
        mendedByTheNearest();
        residualOfMendedIsNought();
        oneSliceHasNoTaperAndNoSweep();
        taperIsOfFirstAndLast();
        sweepIsTheGreatest();
        cellsEndAtForty();
        insideHasItsEdge();
        noRuleIsNone();
        firstRuleThatHolds();
        mendedAreCountedByRules();
        mendedAreThoseOfTheLastRun();
        everySliceIsKept();
        everyTurn();
        leastTurnOfSeveral();
        DUE.end();
    }

    /** "An object is used for at most 512 calls after it has been made" */
    private static void lastCallIsAnswered() {
        StemShapes stem = new StemShapes(16, 8);
        int calls = 0;
        for (int view = 1; view < 8; view += 2, calls++) {
            stem.aim(view, 0, 1);
        }
        for (int slice = 0; slice < 16; slice++) {
            for (int view = 0; view < 8; view++, calls++) {
                stem.shadow(slice, view, slice - 1, slice + 1);
            }
        }
        for (; calls < 509; calls++) {
            DUE.answer("run() as call " + calls, stem.run(), 16);
        }
        stem.keep();
        DUE.answer("match() as call 511", stem.match(), 0);
        DUE.answer("volume() as call 512", stem.volume(), 16 * 3.140625);
    }

    /** "VIEWS have a direction p, q (not both 0; 1, 0 at first)." */
    private static void viewsAreOneNoughtAtFirst() {
        for (int view = 0; view < 8; view++) {
            StemShapes stem = new StemShapes(1, 8);
            int other = (view + 1) % 8;
            stem.aim(other, 3, 4);
            stem.shadow(0, view, 6, 8);
            stem.shadow(0, other, -20, 30);
            DUE.answer("run() with view " + view, stem.run(), 1);
            DUE.answer("x by view " + view, stem.shape(0, 0), 7);
            DUE.answer("y by view " + view, stem.shape(0, 1), -4);
            DUE.answer("radius by view " + view, stem.shape(0, 2), 3);
        }
    }

    /** "A SHADOW ...; none is there at first." */
    private static void noShadowIsThereAtFirst() {
        StemShapes stem = new StemShapes(16, 8);
        stem.aim(1, 0, 1);
        DUE.answer("run() of no shadows", stem.run(), 0);
        for (int slice = 0; slice < 16; slice++) {
            for (int view = 0; view < 8; view++) {
                DUE.answer("lift(" + slice + ", " + view + ")", stem.lift(slice, view), false);
            }
        }
    }

    /** "A SHADOW of a slice in a view goes from one number to another one, not less" */
    private static void shadowMayBeOfNoBreadth() {
        StemShapes stem = Stems.crossed(1);
        stem.shadow(0, 0, 5, 5);
        stem.shadow(0, 1, -3, -3);
        DUE.answer("run() of shadows of no breadth", stem.run(), 1);
        shapeIs("shadows of no breadth", stem, 0, 5, -3, 0, 0);
        DUE.noArgument("shadow to less", () -> stem.shadow(0, 0, 5, Math.nextDown(5.0)));
        stem.shadow(0, 0, 0.0, -0.0);
        DUE.answer("run() of a shadow from 0 to -0", stem.run(), 1);
        stem.shadow(0, 0, -0.0, 0.0);
        DUE.answer("run() of a shadow from -0 to 0", stem.run(), 1);
    }

    /** "FITTED is a slice with shadows in two views or more" */
    private static void oneViewIsTooFew() {
        for (int view = 0; view < 8; view++) {
            StemShapes stem = new StemShapes(2, 8);
            stem.aim(view, 7, -7);
            stem.shadow(0, view, 0, 1);
            DUE.answer("run() of view " + view + " alone", stem.run(), 0);
            stem.shadow(1, (view + 1) % 8, 0, 1);
            DUE.answer("run() of one view in each slice", stem.run(), 0);
        }
    }

    private static void twoViewsAreEnough() {
        for (int one = 0; one < 8; one++) {
            for (int two = 0; two < 8; two++) {
                if (one != two) {
                    StemShapes stem = new StemShapes(1, 8);
                    stem.aim(two, 0, -1);
                    stem.shadow(0, one, 0, 4);
                    stem.shadow(0, two, 2, 8);
                    DUE.answer("run() of views " + one + ", " + two, stem.run(), 1);
                    shapeIs("views " + one + ", " + two, stem, 0, 2, -5, 2.5, 0);
                }
            }
        }
    }

    /** The sum "/ how many views it has a SHADOW in", not / VIEWS. */
    private static void allViewsCount() {
        StemShapes stem = new StemShapes(2, 8);
        for (int view = 0; view < 8; view++) {
            stem.aim(view, view % 2, 1 - view % 2);
            stem.shadow(0, view, -view, view);
        }
        stem.shadow(1, 0, -1, 1);
        stem.shadow(1, 7, -4, 4);
        DUE.answer("run() of eight views", stem.run(), 2);
        DUE.answer("radius by eight views", stem.shape(0, 2), 3.5);
        DUE.answer("radius by two views of eight", stem.shape(1, 2), 2.5);
        stem.lift(0, 0);
        stem.run();
        DUE.answer("radius by seven views", stem.shape(0, 2), 4);
    }

    /** "If the size of DET is below 2^-20 it is not FITTED." */
    private static void detBelowItsEdgeIsNotFitted() {
        StemShapes stem = new StemShapes(1, 2);
        stem.shadow(0, 0, 1, 3);
        stem.shadow(0, 1, -1, 1);
        double q = 0x1p-10;
        stem.aim(1, 0, q);
        DUE.answer("the square of q is the edge", q * q, DET_EDGE);
        DUE.answer("run() with DET at the edge", stem.run(), 1);
        stem.aim(1, 0, -q);
        DUE.answer("run() with DET at the edge, q below 0", stem.run(), 1);
        stem.aim(1, 0, Math.nextDown(q));
        DUE.answer("run() with DET below the edge", stem.run(), 0);
        stem.aim(1, 0, Math.nextUp(q));
        DUE.answer("run() with DET above the edge", stem.run(), 1);
        stem.aim(0, 0x1p-4, 0);
        stem.aim(1, 0, 0x1p-6);
        DUE.answer("run() with DET at the edge by both", stem.run(), 1);
        stem.aim(0, 0x1p-4, 0x1p-4);
        stem.aim(1, 0x1p-6, 0);
        DUE.answer("run() with DET at the edge by a leaning view", stem.run(), 1);
        stem.aim(1, 0x1p-6 - 0x1p-30, 0);
        DUE.answer("run() with DET below the edge by a leaning view", stem.run(), 0);
    }

    private static void parallelViewsAreNotFitted() {
        double[][] aims = {
            {0.1, 0.3, 0.30000000000000004, 0.8999999999999999}, {0.1, 0.7, 0.2, 1.4},
            {16, 16, -16, -16}, {15.9, -13.7, 15.9, -13.7}, {0, 16, 0, -1}, {1, 0, -1, 0}
        };
        for (double[] aim : aims) {
            StemShapes stem = new StemShapes(1, 2);
            stem.aim(0, aim[0], aim[1]);
            stem.aim(1, aim[2], aim[3]);
            stem.shadow(0, 0, -5, 6);
            stem.shadow(0, 1, -7, 8);
            DUE.answer("run() of " + java.util.Arrays.toString(aim), stem.run(), 0);
        }
    }

    /**
     * "ROOT(w) of w not below 0 is r behind 60 times r becoming (r + w / r) / 2, r being (w + 1) / 2
     * at first": of 2 its last bit is not that of the nearest double, and of very small numbers 60
     * times are too few to come near. The roots were reckoned by a program of another language.
     */
    private static void rootIsThatOfSixtySteps() {
        StemShapes stem = new StemShapes(1, 2);
        stem.aim(0, 1, 1);
        stem.aim(1, 1, -1);
        stem.shadow(0, 0, -1, 1);
        stem.shadow(0, 1, -1, 1);
        stem.run();
        DUE.answer("radius by ROOT(2)", stem.shape(0, 2), 1 / 1.414213562373095);
        stem.aim(0, 16, 16);
        stem.aim(1, -16, 16);
        stem.run();
        DUE.answer("radius by ROOT(512)", stem.shape(0, 2), 1 / 22.62741699796952);
        radiusByThirdView(0x1p-59, 1.735887736334517e-18);
        radiusByThirdView(0x1p-60, 8.997270990112016e-19);
        radiusByThirdView(0x1p-61, 5.694382836353998e-19);
        radiusByThirdView(1e-18, 1.0200694985328708e-18);
        radiusByThirdView(1e-9, 1e-9);
        radiusByThirdView(1e-300, 0x1p-61);
        radiusByThirdView(Double.MIN_VALUE, 0x1p-61);
    }

    /** Views 0 and 1 fit the slice and have shadows of no breadth, so the third alone counts. */
    private static void radiusByThirdView(double p, double root) {
        StemShapes stem = new StemShapes(1, 3);
        stem.aim(1, 0, 1);
        stem.aim(2, p, 0);
        stem.shadow(0, 0, 0, 0);
        stem.shadow(0, 1, 0, 0);
        stem.shadow(0, 2, -3, 3);
        DUE.answer("run() with p = " + p, stem.run(), 1);
        DUE.answer("radius with p = " + p, stem.shape(0, 2), 3 / root / 3);
    }

    /** "v(a) + (v(b) - v(a)) * (i - a) / (b - a)" */
    private static void mendedBetweenTwo() {
        StemShapes stem = Stems.crossed(16);
        Stems.put(stem, 0, 0, 30, 1);
        Stems.put(stem, 15, 45, -45, 16);
        DUE.answer("run() of the first and the last", stem.run(), 2);
        for (int i = 0; i < 16; i++) {
            shapeIs("slice " + i, stem, i, 3 * i, 30 - 5 * i, 1 + i, 0);
            DUE.answer("fitted(" + i + ")", stem.fitted(i), i == 0 || i == 15);
        }
    }

    /** "with one of both alone, that one's" */
    private static void mendedByTheOneBefore() {
        StemShapes stem = Stems.crossed(16);
        Stems.put(stem, 0, 3, 4, 5);
        DUE.answer("run() of the first alone", stem.run(), 1);
        for (int i = 0; i < 16; i++) {
            shapeIs("slice " + i + " by the first", stem, i, 3, 4, 5, 0);
        }
    }

    private static void mendedByTheOneBehind() {
        StemShapes stem = Stems.crossed(16);
        Stems.put(stem, 15, -3, -4, 6);
        DUE.answer("run() of the last alone", stem.run(), 1);
        for (int i = 0; i < 16; i++) {
            shapeIs("slice " + i + " by the last", stem, i, -3, -4, 6, 0);
        }
    }

    /** "with a FITTED one before it (the nearest, a) and one behind it (b)" */
    private static void mendedByTheNearest() {
        StemShapes stem = Stems.crossed(9);
        Stems.put(stem, 1, 100, 100, 1);
        Stems.put(stem, 2, 0, 0, 2);
        Stems.put(stem, 6, 8, -16, 6);
        Stems.put(stem, 7, -100, 50, 3);
        DUE.answer("run() of four slices", stem.run(), 4);
        shapeIs("slice 0 by slice 1", stem, 0, 100, 100, 1, 0);
        shapeIs("slice 3 by slices 2 and 6", stem, 3, 2, -4, 3, 0);
        shapeIs("slice 4 by slices 2 and 6", stem, 4, 4, -8, 4, 0);
        shapeIs("slice 5 by slices 2 and 6", stem, 5, 6, -12, 5, 0);
        shapeIs("slice 8 by slice 7", stem, 8, -100, 50, 3, 0);
    }

    /** "RESIDUAL 0" of what is mended, also where a run before had another one. */
    private static void residualOfMendedIsNought() {
        StemShapes stem = new StemShapes(3, 3);
        stem.aim(1, 0, 1);
        for (int slice = 0; slice < 3; slice++) {
            for (int view = 0; view < 3; view++) {
                stem.shadow(slice, view, 4 * view, 4 * view);
            }
        }
        stem.run();
        for (int slice = 0; slice < 3; slice++) {
            shapeIs("slice " + slice + " of middles 0, 8", stem, slice, 4, 4, 0, 32);
        }
        for (int slice = 0; slice < 2; slice++) {
            stem.lift(slice, 1);
            stem.lift(slice, 2);
            stem.run();
            for (int i = 0; i < 3; i++) {
                shapeIs("slice " + i + ", mended to " + slice, stem, i, 4, 4, 0, i <= slice ? 0 : 32);
            }
        }
    }

    /** TAPER "0 of one slice", SWEEP "0 of one slice" */
    private static void oneSliceHasNoTaperAndNoSweep() {
        for (int wish : new int[] {1, 0, Integer.MIN_VALUE}) {
            StemShapes stem = Stems.crossed(wish);
            Stems.put(stem, 0, 300, -400, 9);
            stem.run();
            DUE.answer("taper() of one slice", stem.taper(), 0);
            DUE.answer("sweep() of one slice", stem.sweep(), 0);
            DUE.answer("volume() of one slice", stem.volume(), 3.140625 * 81);
        }
    }

    private static void taperIsOfFirstAndLast() {
        StemShapes two = Stems.crossed(2);
        Stems.put(two, 0, 0, 0, 7);
        Stems.put(two, 1, 0, 0, 2);
        two.run();
        DUE.answer("taper() of two slices", two.taper(), 5);
        StemShapes most = Stems.crossed(16);
        for (int slice = 0; slice < 16; slice++) {
            Stems.put(most, slice, 0, 0, 50);
        }
        Stems.put(most, 0, 0, 0, 1);
        Stems.put(most, 15, 0, 0, 61);
        most.run();
        DUE.answer("taper() of sixteen slices", most.taper(), -4);
        Stems.put(most, 0, 0, 0, 61);
        most.run();
        DUE.answer("taper() of the same radius", most.taper(), 0);
    }

    /** "SWEEP the greatest of ... over all slices": at the first between, at the last one, of both. */
    private static void sweepIsTheGreatest() {
        DUE.answer("sweep() of a straight stem", sweepOf(0, 0, 0, 0), 0);
        DUE.answer("sweep() of the first between", sweepOf(3, 4, 1, 1), 25);
        DUE.answer("sweep() of the last between", sweepOf(1, 1, 3, 4), 25);
        DUE.answer("sweep() of two that are alike", sweepOf(-3, 4, 4, -3), 25);
        DUE.answer("sweep() in x alone", sweepOf(-6, 0, 0, 0), 36);
        DUE.answer("sweep() in y alone", sweepOf(0, 0, 0, -7), 49);
    }

    /** The ends lie at 1, 2 and 10, 5, and two slices off the line between them. */
    private static double sweepOf(double dx1, double dy1, double dx2, double dy2) {
        StemShapes stem = Stems.crossed(4);
        Stems.put(stem, 0, 1, 2, 1);
        Stems.put(stem, 1, 4 + dx1, 3 + dy1, 1);
        Stems.put(stem, 2, 7 + dx2, 4 + dy2, 1);
        Stems.put(stem, 3, 10, 5, 1);
        stem.run();
        return stem.sweep();
    }

    /** "CELLS of a slice: how many whole i and j of -40 .. 40 lie INSIDE" */
    private static void cellsEndAtForty() {
        int[][] corners = {{40, 40}, {40, -40}, {-40, 40}, {-40, -40}};
        for (int[] corner : corners) {
            String name = " at " + corner[0] + ", " + corner[1];
            DUE.answer("wholes of the corner" + name, wholesOf(corner[0], corner[1], 0), 1);
            DUE.answer("wholes of radius 1" + name, wholesOf(corner[0], corner[1], 1), 3);
        }
        DUE.answer("wholes beyond 40 in x", wholesOf(41, 0, 0.75), 0);
        DUE.answer("wholes beyond -40 in x", wholesOf(-41, 0, 0.75), 0);
        DUE.answer("wholes beyond 40 in y", wholesOf(0, 41, 0.75), 0);
        DUE.answer("wholes beyond -40 in y", wholesOf(0, -41, 0.75), 0);
        DUE.answer("wholes of an edge that reaches 40", wholesOf(41, 0, 1), 1);
        DUE.answer("wholes of an edge that reaches -40", wholesOf(0, -41, 1), 1);
        DUE.answer("wholes of all", wholesOf(0, 0, 57), 81 * 81);
        DUE.answer("wholes of all but the corners", wholesOf(0, 0, 56.5), 81 * 81 - 4);
        DUE.answer("wholes of none", wholesOf(0.5, 0.5, 0.5), 0);
    }

    private static int wholesOf(double x, double y, double radius) {
        StemShapes stem = Stems.crossed(1);
        Stems.put(stem, 0, x, y, radius);
        stem.run();
        return stem.wholes(0);
    }

    /** "INSIDE if ... is at most RADIUS * RADIUS" */
    private static void insideHasItsEdge() {
        StemShapes stem = Stems.crossed(1);
        Stems.put(stem, 0, 0, 0, 5);
        stem.run();
        int[][] edges = {{5, 0}, {-5, 0}, {0, 5}, {0, -5}, {3, 4}, {-4, 3}, {4, -3}, {-3, -4}};
        for (int[] edge : edges) {
            String name = "inside(0, " + edge[0] + ", " + edge[1] + ")";
            DUE.answer(name, stem.inside(0, edge[0], edge[1]), true);
            DUE.answer(name + " and a bit",
                    stem.inside(0, Math.nextUp(Math.abs(edge[0]) + 0.0) * Integer.signum(edge[0]),
                            Math.nextUp(Math.abs(edge[1]) + 0.0) * Integer.signum(edge[1])), false);
        }
    }

    /** "The CLASS is that of the first rule that holds; NONE without one." */
    private static void noRuleIsNone() {
        StemShapes unruled = Stems.crossed(1);
        Stems.put(unruled, 0, 0, 0, 1);
        unruled.run();
        DUE.answer("cls() without a rule", unruled.cls(), StemShapes.NONE);
        DUE.answer("NONE", StemShapes.NONE, -1);
        for (int count = 1; count <= 6; count++) {
            DUE.answer("rule that fails", unruled.rule(2, 1.5, count), count);
            DUE.answer("cls() of " + count + " rules that fail", unruled.cls(), StemShapes.NONE);
        }
    }

    private static void firstRuleThatHolds() {
        for (int first = 0; first < 6; first++) {
            StemShapes stem = Stems.crossed(1);
            Stems.put(stem, 0, 0, 0, 1);
            stem.run();
            for (int i = 0; i < 6; i++) {
                stem.rule(2, i < first ? 2 : 1, 100 - i);
            }
            DUE.answer("cls() if rule " + first + " is the first that holds", stem.cls(), 100 - first);
        }
    }

    /** "4 slices that were MENDED at most" */
    private static void mendedAreCountedByRules() {
        for (int mended = 0; mended < 16; mended++) {
            StemShapes stem = Stems.crossed(16);
            for (int slice = 0; slice < 16; slice++) {
                Stems.put(stem, slice, 0, 0, 1);
            }
            stem.run();
            for (int slice = 0; slice < mended; slice++) {
                stem.lift(slice, slice % 2);
            }
            DUE.answer("run() but for " + mended, stem.run(), 16 - mended);
            stem.rule(4, mended - 0.5, 1);
            DUE.answer("cls() below " + mended + " mended", stem.cls(), StemShapes.NONE);
            stem.rule(4, mended, 2);
            DUE.answer("cls() of " + mended + " mended", stem.cls(), 2);
        }
    }

    /** "OF THE STEM (when it was run)": what an earlier run mended is not counted. */
    private static void mendedAreThoseOfTheLastRun() {
        StemShapes stem = Stems.crossed(4);
        stem.rule(4, 0, 10);
        stem.rule(4, 1, 11);
        stem.rule(4, 2, 12);
        stem.rule(4, 3, 13);
        DUE.answer("run() of none", stem.run(), 0);
        for (int slice = 0; slice < 4; slice++) {
            Stems.put(stem, slice, 0, 0, 1);
            DUE.answer("run() to slice " + slice, stem.run(), slice + 1);
            DUE.answer("run() to slice " + slice + ", again", stem.run(), slice + 1);
            DUE.answer("cls() to slice " + slice, stem.cls(), 13 - slice);
        }
        stem.lift(2, 0);
        stem.run();
        DUE.answer("cls() behind a lift", stem.cls(), 11);
    }

    /** "KEPT is a stem: its centres", and APART "the sum over slices" */
    private static void everySliceIsKept() {
        for (int slices = 1; slices <= 16; slices++) {
            StemShapes stem = Stems.crossed(slices);
            for (int slice = 0; slice < slices; slice++) {
                Stems.put(stem, slice, slice, 2 * slice + 1, 5);
            }
            stem.run();
            stem.keep();
            DUE.answer("apart(0) of the same", stem.apart(0), 0);
            for (int slice = 0; slice < slices; slice++) {
                Stems.put(stem, slice, slice + 3, 2 * slice + 5, 7);
            }
            stem.run();
            DUE.answer("apart(0) of " + slices + " slices", stem.apart(0), 25 * slices);
            Stems.put(stem, slices - 1, slices - 1, 2 * slices - 1, 9);
            stem.run();
            DUE.answer("apart(0) but for the last slice", stem.apart(0), 25 * slices - 25);
        }
    }

    /** "TURNED by 0 .. 3 quarters x, y become x, y; -y, x; -x, -y; y, -x." */
    private static void everyTurn() {
        double[][] turned = {{3, 5}, {-5, 3}, {-3, -5}, {5, -3}};
        for (int turn = 0; turn < 4; turn++) {
            StemShapes stem = Stems.crossed(1);
            Stems.put(stem, 0, 3, 5, 1);
            stem.run();
            stem.keep();
            Stems.put(stem, 0, turned[turn][0] + 1, turned[turn][1] - 2, 1);
            stem.run();
            DUE.answer("apart(" + turn + ")", stem.apart(turn), 5);
            DUE.answer("match() of turn " + turn, stem.match(), turn);
        }
    }

    /** "MATCH: the turn with the least one, of several the least turn." */
    private static void leastTurnOfSeveral() {
        // Kept at 2, 0, which turned is 0, 2, then -2, 0, then 0, -2.
        DUE.answer("match() of all alike", matchOf(0, 0), 0);
        DUE.answer("match() between turns 0 and 1", matchOf(3, 3), 0);
        DUE.answer("match() between turns 1 and 2", matchOf(-3, 3), 1);
        DUE.answer("match() between turns 2 and 3", matchOf(-3, -3), 2);
        DUE.answer("match() between turns 3 and 0", matchOf(3, -3), 0);
    }

    private static int matchOf(double x, double y) {
        StemShapes stem = Stems.crossed(1);
        Stems.put(stem, 0, 2, 0, 1);
        stem.run();
        stem.keep();
        Stems.put(stem, 0, x, y, 1);
        stem.run();
        return stem.match();
    }

    private static void shapeIs(String name, StemShapes stem, int slice, double... due) {
        for (int what = 0; what < 4; what++) {
            DUE.answer(name + ", shape " + what, stem.shape(slice, what), due[what]);
        }
        DUE.answer(name + ", area", stem.shape(slice, 4), 3.140625 * due[2] * due[2]);
    }
}
