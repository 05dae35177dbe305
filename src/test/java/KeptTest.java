/** Promises 15 (keep), 16 (apart) and 17 (match). */
public final class KeptTest {
    private static final Due DUE = new Due();

    public static void main(String[] args) {
        keepHoldsWhatItWas();
        keepTakesThePlaceOfWhatWas();
        keepNeedsRun();
        apartTurnsTheKeptOne();
        apartIsReckonedInOrder();
        apartRefuses();
        matchFindsEveryTurn();
        matchTakesTheLeastOfSeveral();
        matchRefuses();
        DUE.end();
    }

    private static void keepHoldsWhatItWas() {
        StemShapes stem = stemOf(1, 2, 3, 4);
        stem.keep();
        DUE.answer("apart(0) of what was kept", stem.apart(0), 0);
        stem.shadow(0, 0, 10, 12);
        stem.aim(0, 2, 0);
        stem.lift(1, 1);
        stem.run();
        move(stem, 1, 2, 3, 4);
        stem.aim(0, 1, 0);
        stem.run();
        DUE.answer("apart(0) when all is as it was", stem.apart(0), 0);
        stem.lift(0, 0);
        stem.lift(1, 0);
        stem.run();
        DUE.noState("apart(0) without a fitted slice", () -> stem.apart(0));
        move(stem, 1, 2, 3, 5);
        stem.run();
        DUE.answer("apart(0) behind runs that failed", stem.apart(0), 1);
    }

    private static void keepTakesThePlaceOfWhatWas() {
        StemShapes stem = stemOf(1, 2, 3, 4);
        stem.keep();
        move(stem, 9, 9, 9, 9);
        stem.run();
        stem.keep();
        DUE.answer("apart(0) of what was kept anew", stem.apart(0), 0);
        move(stem, 1, 2, 3, 4);
        stem.run();
        DUE.answer("apart(0) of what was kept first", stem.apart(0), 64 + 49 + 36 + 25);
        stem.lift(0, 0);
        DUE.noState("keep() behind lift", stem::keep);
        move(stem, 9, 9, 9, 9);
        stem.run();
        DUE.answer("apart(0) behind a refused keep", stem.apart(0), 0);
    }

    private static void keepNeedsRun() {
        StemShapes stem = Stems.crossed(2);
        DUE.noState("keep() before a run", stem::keep);
        stem.run();
        DUE.noState("keep() without a fitted slice", stem::keep);
        move(stem, 1, 2, 3, 4);
        DUE.noState("keep() behind shadow", stem::keep);
        stem.run();
        DUE.noState("apart(0) behind refused keeps", () -> stem.apart(0));
        stem.keep();
        DUE.answer("fitted(0) is run still behind keep", stem.fitted(0), true);
    }

    private static void apartTurnsTheKeptOne() {
        StemShapes stem = stemOf(1, 2, 3, 5);
        stem.keep();
        move(stem, 10, 20, 40, 80);
        stem.run();
        DUE.answer("apart(0)", stem.apart(0), 81 + 324 + 37 * 37 + 75 * 75);
        DUE.answer("apart(1)", stem.apart(1), 144 + 361 + 45 * 45 + 77 * 77);
        DUE.answer("apart(2)", stem.apart(2), 121 + 484 + 43 * 43 + 85 * 85);
        DUE.answer("apart(3)", stem.apart(3), 64 + 441 + 35 * 35 + 83 * 83);
    }

    private static void apartIsReckonedInOrder() {
        StemShapes stem = Stems.awkward();
        stem.run();
        stem.keep();
        Stems.changeAwkward(stem).run();
        DUE.answer("apart(0) of awkward", stem.apart(0), 0.013465161891003299);
        DUE.answer("apart(1) of awkward", stem.apart(1), 1.9264219041508617);
        DUE.answer("apart(2) of awkward", stem.apart(2), 3.781514698203265);
        DUE.answer("apart(3) of awkward", stem.apart(3), 1.8685579559434058);
        DUE.answer("match() of awkward", stem.match(), 0);
    }

    private static void apartRefuses() {
        StemShapes stem = Stems.crossed(2);
        refusesTurns("before a run", stem);
        DUE.noState("apart(0) before a run", () -> stem.apart(0));
        move(stem, 1, 2, 3, 4);
        stem.run();
        refusesTurns("without a kept stem", stem);
        DUE.noState("apart(3) without a kept stem", () -> stem.apart(3));
        stem.keep();
        refusesTurns("with a kept stem", stem);
        DUE.answer("apart(0)", stem.apart(0), 0);
        stem.aim(0, 1, 0);
        DUE.noState("apart(0) behind aim", () -> stem.apart(0));
    }

    private static void refusesTurns(String when, StemShapes stem) {
        for (int turn : new int[] {-1, 4, Integer.MIN_VALUE, Integer.MAX_VALUE}) {
            DUE.noArgument("apart(" + turn + ") " + when, () -> stem.apart(turn));
        }
    }

    private static void matchFindsEveryTurn() {
        StemShapes stem = stemOf(1, 2, 3, 5);
        stem.keep();
        matchIs(stem, 0, 1, 2, 3, 5);
        matchIs(stem, 1, -2, 1, -5, 3);
        matchIs(stem, 2, -1, -2, -3, -5);
        matchIs(stem, 3, 2, -1, 5, -3);
        matchIs(stem, 3, 2, -2, 5, -3);
    }

    private static void matchTakesTheLeastOfSeveral() {
        StemShapes stem = stemOf(0, 0, 0, 0);
        stem.keep();
        matchIs(stem, 0, 7, 8, 9, 10);
        move(stem, 4, 0, 4, 0);
        stem.run();
        stem.keep();
        matchIs(stem, 0, 1, 1, 1, 1);
        matchIs(stem, 1, -1, 1, -1, 1);
        matchIs(stem, 2, -1, -1, -1, -1);
        matchIs(stem, 0, 1, -1, 1, -1);
    }

    private static void matchIs(StemShapes stem, int due, double... centres) {
        move(stem, centres);
        stem.run();
        DUE.answer("match() of " + java.util.Arrays.toString(centres), stem.match(), due);
    }

    private static void matchRefuses() {
        StemShapes stem = Stems.crossed(2);
        DUE.noState("match() before a run", stem::match);
        move(stem, 1, 2, 3, 4);
        stem.run();
        DUE.noState("match() without a kept stem", stem::match);
        stem.keep();
        DUE.answer("match()", stem.match(), 0);
        stem.shadow(0, 0, 0, 0);
        DUE.noState("match() behind shadow", stem::match);
    }

    /** A stem of two slices that was run. */
    private static StemShapes stemOf(double... centres) {
        StemShapes stem = Stems.crossed(2);
        move(stem, centres);
        stem.run();
        return stem;
    }

    private static void move(StemShapes stem, double... centres) {
        Stems.put(stem, 0, centres[0], centres[1], 1);
        Stems.put(stem, 1, centres[2], centres[3], 1);
    }
}
