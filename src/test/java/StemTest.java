/** Promises 10 (volume), 11 (taper), 12 (sweep) and 14 (cls). */
public final class StemTest {
    private static final Due DUE = new Due();

    public static void main(String[] args) {
        wholeStemIsMeasured();
        wholeStemIsReckonedInOrder();
        oneSliceIsStraight();
        wholeStemNeedsRun();
        classIsThatOfFirstRule();
        everyKindHasItsEdge();
        limitMayBeAnything();
        classNeedsRun();
        DUE.end();
    }

    private static void wholeStemIsMeasured() {
        StemShapes stem = bent();
        DUE.answer("run()", stem.run(), 3);
        DUE.answer("volume()", stem.volume(), 3.140625 * (64 + 36 + 16 + 9 + 4));
        DUE.answer("taper()", stem.taper(), 1.5);
        DUE.answer("sweep()", stem.sweep(), 25);
        StemShapes swollen = Stems.crossed(2);
        Stems.put(swollen, 0, 1, 1, 1);
        Stems.put(swollen, 1, 9, 9, 4);
        swollen.run();
        DUE.answer("taper() of a stem that swells", swollen.taper(), -3);
        DUE.answer("sweep() of two slices", swollen.sweep(), 0);
        swollen.shadow(0, 0, 1000, 1000);
        swollen.shadow(1, 0, 0.1, 0.1);
        swollen.run();
        double off = 0.1 - (1000 + (0.1 - 1000));
        DUE.answer("the last centre is off its line by rounding", off != 0, true);
        DUE.answer("sweep() of two slices by rounding", swollen.sweep(), off * off);
    }

    private static void wholeStemIsReckonedInOrder() {
        StemShapes stem = Stems.awkward();
        stem.run();
        DUE.answer("volume() of awkward", stem.volume(), 191.26499117206555);
        DUE.answer("taper() of awkward", stem.taper(), -0.11290571818702211);
        DUE.answer("sweep() of awkward", stem.sweep(), 0.01612683822741809);
        Stems.changeAwkward(stem).run();
        DUE.answer("volume() of awkward, changed", stem.volume(), 126.57288093610123);
        DUE.answer("taper() of awkward, changed", stem.taper(), -0.10117909244151739);
        DUE.answer("sweep() of awkward, changed", stem.sweep(), 0.010265811270774462);
    }

    private static void oneSliceIsStraight() {
        StemShapes stem = Stems.crossed(1);
        Stems.put(stem, 0, 30, 40, 2);
        stem.run();
        DUE.answer("volume() of one slice", stem.volume(), 12.5625);
        DUE.answer("taper() of one slice", stem.taper(), 0);
        DUE.answer("sweep() of one slice", stem.sweep(), 0);
    }

    private static void wholeStemNeedsRun() {
        StemShapes stem = Stems.crossed(2);
        askedInVain("before a run", stem);
        stem.run();
        askedInVain("without a fitted slice", stem);
        Stems.put(stem, 0, 0, 0, 1);
        askedInVain("behind shadow", stem);
        stem.run();
        DUE.answer("volume() behind run", stem.volume(), 6.28125);
        stem.aim(0, 1, 0);
        askedInVain("behind aim", stem);
        stem.run();
        stem.lift(0, 0);
        askedInVain("behind lift", stem);
    }

    private static void askedInVain(String when, StemShapes stem) {
        DUE.noState("volume() " + when, stem::volume);
        DUE.noState("taper() " + when, stem::taper);
        DUE.noState("sweep() " + when, stem::sweep);
    }

    private static void classIsThatOfFirstRule() {
        StemShapes stem = bent();
        stem.run();
        DUE.answer("cls() without rules", stem.cls(), StemShapes.NONE);
        stem.rule(0, 24, 1);
        DUE.answer("cls() of a rule that fails", stem.cls(), StemShapes.NONE);
        stem.rule(3, 100, 0);
        DUE.answer("cls() of class 0", stem.cls(), 0);
        stem.rule(0, 1000, 3);
        DUE.answer("cls() of the first of two", stem.cls(), 0);
        Stems.put(stem, 0, 0, 0, 1);
        Stems.put(stem, 4, 0, 0, 1);
        stem.run();
        DUE.answer("cls() of the later one", stem.cls(), 3);
        stem.rule(4, 2, 4);
        DUE.answer("cls() behind a rule, without a run", stem.cls(), 3);
    }

    private static void everyKindHasItsEdge() {
        double volume = 3.140625 * 129;
        atMost(0, 25);
        atMost(1, 1.5);
        atLeast(2, 2);
        atLeast(3, volume);
        atMost(4, 2);
    }

    private static void atMost(int kind, double value) {
        holds(kind, value, true);
        holds(kind, Math.nextUp(value), true);
        holds(kind, Math.nextDown(value), false);
    }

    private static void atLeast(int kind, double value) {
        holds(kind, value, true);
        holds(kind, Math.nextUp(value), false);
        holds(kind, Math.nextDown(value), true);
    }

    private static void limitMayBeAnything() {
        for (int kind = 0; kind < 5; kind++) {
            boolean isLeast = kind == 2 || kind == 3;
            holds(kind, Double.NaN, false);
            holds(kind, Double.POSITIVE_INFINITY, !isLeast);
            holds(kind, Double.NEGATIVE_INFINITY, isLeast);
        }
        StemShapes stem = bent();
        stem.run();
        for (int kind = 0; kind < 5; kind++) {
            stem.rule(kind, Double.NaN, kind);
        }
        stem.rule(4, 100, 99);
        DUE.answer("cls() behind five rules of no number", stem.cls(), 99);
    }

    private static void holds(int kind, double limit, boolean due) {
        StemShapes stem = bent();
        stem.rule(kind, limit, 50);
        stem.run();
        DUE.answer("cls() of kind " + kind + " and limit " + limit, stem.cls(),
                due ? 50 : StemShapes.NONE);
    }

    private static void classNeedsRun() {
        StemShapes stem = Stems.crossed(2);
        stem.rule(4, 100, 1);
        DUE.noState("cls() before a run", stem::cls);
        stem.run();
        DUE.noState("cls() without a fitted slice", stem::cls);
        Stems.put(stem, 0, 0, 0, 1);
        DUE.noState("cls() behind shadow", stem::cls);
        stem.run();
        DUE.answer("cls()", stem.cls(), 1);
        stem.aim(1, 0, 1);
        DUE.noState("cls() behind aim", stem::cls);
        stem.run();
        stem.lift(1, 0);
        DUE.answer("cls() behind a lift of nothing", stem.cls(), 1);
    }

    /**
     * Radius 8, 6, 4, 3, 2: the second and the fourth slice are mended. The line from the first
     * centre to the last leads through 4, 8, from which the third slice is 3, -4 away.
     */
    private static StemShapes bent() {
        StemShapes stem = Stems.crossed(5);
        Stems.put(stem, 0, 0, 0, 8);
        Stems.put(stem, 2, 7, 4, 4);
        Stems.put(stem, 4, 8, 16, 2);
        return stem;
    }
}
