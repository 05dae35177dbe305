import java.util.function.Supplier;

/** Objects of three slices and three views in every kind of state that the document tells apart. */
enum States {
    NEW(false, false, false, () -> new StemShapes(Probe.SLICES, Probe.VIEWS)),
    TOLD(false, false, false, States::told),
    RUN(true, false, false, () -> run(told())),
    RUN_WITHOUT_FITTED(false, false, false, () -> run(broken(run(told())))),
    KEPT(true, true, false, States::kept),
    KEPT_AND_TOLD(false, true, false, () -> moved(kept())),
    KEPT_AND_RUN(true, true, false, () -> run(moved(kept()))),
    KEPT_WITHOUT_FITTED(false, true, false, () -> run(broken(kept()))),
    FULL(true, true, true, () -> ruled(run(moved(kept())))),
    FULL_AND_TOLD(false, true, true, () -> moved(ruled(kept()))),
    FULL_AND_NEW(false, false, true, () -> ruled(new StemShapes(Probe.SLICES, Probe.VIEWS)));

    /** Whether it was run since something was told, and a slice was fitted. */
    final boolean isShaped;
    final boolean isKept;
    final boolean isFull;
    private final Supplier<StemShapes> maker;

    States(boolean isShaped, boolean isKept, boolean isFull, Supplier<StemShapes> maker) {
        this.isShaped = isShaped;
        this.isKept = isKept;
        this.isFull = isFull;
        this.maker = maker;
    }

    StemShapes make() {
        return maker.get();
    }

    /** Slices 0 and 2 can be fitted; slice 1 has one shadow; place 2, 1 has none. */
    private static StemShapes told() {
        StemShapes stem = new StemShapes(Probe.SLICES, Probe.VIEWS);
        stem.aim(1, 0.25, 1);
        stem.aim(2, -3, 2);
        stem.shadow(0, 0, -3, 4);
        stem.shadow(0, 1, -2, 6);
        stem.shadow(0, 2, -9, 11);
        stem.shadow(1, 0, 1, 2);
        stem.shadow(2, 0, 0, 5);
        stem.shadow(2, 2, -7, 1);
        stem.rule(1, 0.125, 10);
        return stem;
    }

    private static StemShapes moved(StemShapes stem) {
        stem.shadow(0, 0, 1, 5);
        stem.shadow(2, 2, -1, 3);
        return stem;
    }

    private static StemShapes broken(StemShapes stem) {
        stem.lift(0, 0);
        stem.lift(0, 1);
        stem.lift(2, 2);
        return stem;
    }

    private static StemShapes run(StemShapes stem) {
        stem.run();
        return stem;
    }

    private static StemShapes kept() {
        StemShapes stem = run(told());
        stem.keep();
        return stem;
    }

    /** The last rule always holds, so that a change of it would be seen. */
    private static StemShapes ruled(StemShapes stem) {
        double[] limits = {1e-9, 0.5, 1e9, 200};
        int kind = 0;
        int count = 0;
        while (count < 5) {
            count = stem.rule(kind % 4, limits[kind % 4], 20 + kind);
            kind++;
        }
        stem.rule(4, 3, 66);
        return stem;
    }
}
