import java.util.LinkedHashMap;
import java.util.Map;
import java.util.function.Consumer;

/**
 * "IllegalStateException: it was not run since something (but a rule) was told, or there was no
 * FITTED slice; there is no room, or none KEPT." Which calls make a run out of date and which
 * don't, for every call that asks for a shape.
 */
public final class RunStateTest {
    private static final Map<String, Consumer<StemShapes>> ASKING = new LinkedHashMap<>();
    private static final Due DUE = new Due();

    public static void main(String[] args) {
        nameAsking();
        newObjectWasNotRun();
        whatWasToldNeedsRun();
        theSameToldAgainNeedsRun();
        ruleNeedsNoRun();
        liftOfNothingNeedsNoRun();
        whatIsAskedNeedsNoRun();
        refusedCallsNeedNoRun();
        runWithoutFittedGivesNoShape();
        oneFittedSliceIsEnough();
        ruleDoesNotMakeUpForRun();
        DUE.end();
    }

    private static void nameAsking() {
        for (int what = 0; what < 5; what++) {
            int part = what;
            ASKING.put("shape(0, " + what + ")", stem -> stem.shape(0, part));
        }
        ASKING.put("fitted(0)", stem -> stem.fitted(0));
        ASKING.put("inside(0, 0, 0)", stem -> stem.inside(0, 0, 0));
        ASKING.put("wholes(0)", stem -> stem.wholes(0));
        ASKING.put("volume()", StemShapes::volume);
        ASKING.put("taper()", StemShapes::taper);
        ASKING.put("sweep()", StemShapes::sweep);
        ASKING.put("cls()", StemShapes::cls);
        ASKING.put("keep()", StemShapes::keep);
        for (int turn = 0; turn < 4; turn++) {
            int quarters = turn;
            ASKING.put("apart(" + turn + ")", stem -> stem.apart(quarters));
        }
        ASKING.put("match()", StemShapes::match);
    }

    private static void newObjectWasNotRun() {
        noShape("in a new object", new StemShapes(3, 3));
        noShape("in the least object", new StemShapes(1, 1));
        noShape("before the first run", States.TOLD.make());
    }

    private static void whatWasToldNeedsRun() {
        needsRun("aim", stem -> stem.aim(0, 2, 1));
        needsRun("aim of a view without shadows", stem -> {
            stem.lift(0, 1);
            stem.run();
            stem.aim(1, 5, 5);
        });
        needsRun("shadow where one was", stem -> stem.shadow(0, 0, 1, 2));
        needsRun("shadow where none was", stem -> stem.shadow(2, 1, 1, 2));
        needsRun("shadow in a slice that can't be fitted", stem -> stem.shadow(1, 0, 5, 6));
        needsRun("lift", stem -> stem.lift(0, 2));
        needsRun("lift in a slice that can't be fitted", stem -> stem.lift(1, 0));
        needsRun("lift of the last slice", stem -> stem.lift(2, 2));
    }

    private static void theSameToldAgainNeedsRun() {
        needsRun("the same aim", stem -> stem.aim(2, -3, 2));
        needsRun("the same aim as at first", stem -> stem.aim(0, 1, 0));
        needsRun("the same shadow", stem -> stem.shadow(0, 0, -3, 4));
        needsRun("lift, and the same shadow", stem -> {
            stem.lift(0, 0);
            stem.shadow(0, 0, -3, 4);
        });
        needsRun("shadow, and its lift", stem -> {
            stem.shadow(2, 1, 0, 1);
            stem.lift(2, 1);
        });
        needsRun("lift, and lift again", stem -> {
            stem.lift(0, 0);
            stem.lift(0, 0);
        });
    }

    private static void ruleNeedsNoRun() {
        StemShapes stem = States.KEPT.make();
        double volume = stem.volume();
        // The state has told one rule already.
        for (int count = 2; count <= 6; count++) {
            DUE.answer("rule " + count, stem.rule(4, 3, count), count);
            DUE.answer("volume() behind rule " + count, stem.volume(), volume);
        }
        hasShape("behind rules", stem);
    }

    /** "whether it was (if not, it is run still)" */
    private static void liftOfNothingNeedsNoRun() {
        leavesRun("lift where none was", stem -> stem.lift(2, 1));
        leavesRun("lift in another slice where none was", stem -> stem.lift(1, 2));
        StemShapes lifted = States.KEPT.make();
        lifted.lift(0, 2);
        lifted.run();
        DUE.answer("lift of what was lifted before the run", lifted.lift(0, 2), false);
        hasShape("behind lift of what was lifted before the run", lifted);
    }

    private static void whatIsAskedNeedsNoRun() {
        for (Map.Entry<String, Consumer<StemShapes>> asking : ASKING.entrySet()) {
            leavesRun(asking.getKey(), asking.getValue());
        }
        leavesRun("law", stem -> stem.law(10, 3, 0));
        leavesRun("run", StemShapes::run);
        leavesRun("two runs", stem -> {
            stem.run();
            stem.run();
        });
    }

    private static void refusedCallsNeedNoRun() {
        leavesRun("refused aim, view", stem -> refused(() -> stem.aim(3, 1, 1)));
        leavesRun("refused aim, p", stem -> refused(() -> stem.aim(0, 17, 1)));
        leavesRun("refused aim, no direction", stem -> refused(() -> stem.aim(0, 0, 0)));
        leavesRun("refused shadow, slice", stem -> refused(() -> stem.shadow(3, 0, 1, 2)));
        leavesRun("refused shadow, view", stem -> refused(() -> stem.shadow(0, 3, 1, 2)));
        leavesRun("refused shadow, to", stem -> refused(() -> stem.shadow(0, 0, 1, 1001)));
        leavesRun("refused shadow, to less", stem -> refused(() -> stem.shadow(0, 0, 2, 1)));
        leavesRun("refused lift, slice", stem -> refused(() -> stem.lift(3, 0)));
        leavesRun("refused lift, view", stem -> refused(() -> stem.lift(0, 3)));
        leavesRun("refused rule", stem -> refused(() -> stem.rule(5, 0, 0)));
        leavesRun("refused shape", stem -> refused(() -> stem.shape(0, 5)));
        leavesRun("refused inside", stem -> refused(() -> stem.inside(0, 1001, 0)));
        leavesRun("refused apart", stem -> refused(() -> stem.apart(4)));
        leavesRun("refused law", stem -> refused(() -> stem.law(1, 0, 0)));
    }

    /** "Without any FITTED slice nothing is MENDED, and there is no shape." */
    private static void runWithoutFittedGivesNoShape() {
        StemShapes empty = new StemShapes(3, 3);
        DUE.answer("run() of a new object", empty.run(), 0);
        noShape("behind a run of nothing", empty);
        noShape("behind a run of nothing, behind one that had fitted", States.RUN_WITHOUT_FITTED.make());
        noShape("behind a run of nothing, with a kept stem", States.KEPT_WITHOUT_FITTED.make());
        StemShapes one = new StemShapes(16, 1);
        for (int slice = 0; slice < 16; slice++) {
            one.shadow(slice, 0, 0, 1);
        }
        DUE.answer("run() of one view", one.run(), 0);
        noShape("behind a run of one view", one);
    }

    private static void oneFittedSliceIsEnough() {
        for (int slice = 0; slice < 16; slice++) {
            StemShapes stem = Stems.crossed(16);
            Stems.put(stem, slice, 1, 2, 3);
            DUE.answer("run() of slice " + slice + " alone", stem.run(), 1);
            stem.keep();
            hasShape("with slice " + slice + " alone", stem);
        }
    }

    private static void ruleDoesNotMakeUpForRun() {
        StemShapes stem = States.TOLD.make();
        stem.rule(4, 3, 1);
        noShape("behind a rule before the first run", stem);
        StemShapes moved = States.KEPT_AND_TOLD.make();
        moved.rule(4, 3, 1);
        noShape("behind a rule before another run", moved);
        StemShapes lifted = States.KEPT_AND_TOLD.make();
        lifted.lift(2, 1);
        lifted.law(1, 1, 1);
        noShape("behind a lift of nothing before another run", lifted);
    }

    private static void needsRun(String name, Consumer<StemShapes> call) {
        StemShapes stem = States.KEPT.make();
        call.accept(stem);
        noShape("behind " + name, stem);
        DUE.answer("run() behind " + name + " finds slices", stem.run() > 0, true);
        hasShape("behind " + name + " and run", stem);
    }

    private static void leavesRun(String name, Consumer<StemShapes> call) {
        StemShapes stem = States.KEPT.make();
        String before = Probe.ofAnswers(stem);
        call.accept(stem);
        DUE.answer("all answers stay behind " + name, Probe.ofAnswers(stem).equals(before), true);
        hasShape("behind " + name, stem);
    }

    private static void noShape(String when, StemShapes stem) {
        for (Map.Entry<String, Consumer<StemShapes>> asking : ASKING.entrySet()) {
            DUE.noState(asking.getKey() + " " + when, () -> asking.getValue().accept(stem));
        }
    }

    private static void hasShape(String when, StemShapes stem) {
        for (Map.Entry<String, Consumer<StemShapes>> asking : ASKING.entrySet()) {
            try {
                asking.getValue().accept(stem);
            } catch (RuntimeException thrown) {
                DUE.complain(asking.getKey() + " " + when, thrown.toString(), "an answer");
            }
        }
    }

    private static void refused(Runnable call) {
        try {
            call.run();
            DUE.complain("a call to be refused", "nothing thrown", "an exception");
        } catch (RuntimeException thrown) {
            // Which one it is stands in RefusedTest.
        }
    }
}
