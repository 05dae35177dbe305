import java.util.function.Supplier;

/**
 * All that calls can tell of an object of three slices and three views, as a text: two objects
 * with the same text are in the same state. As most of it can be learned only by changing the
 * object, each part is learned of an object made anew.
 */
final class Probe {
    static final int SLICES = 3;
    static final int VIEWS = 3;
    private static final double[][] AIMS = {{3, 4}, {-1, 2}, {0.5, -0.25}};
    private static final int[] WHOLE_NUMBERS = {-1, 0, 2, 3};

    private final StringBuilder text = new StringBuilder();

    private Probe() {
    }

    static String of(Supplier<StemShapes> maker) {
        Probe probe = new Probe();
        probe.answers(maker.get());
        probe.answersBehindRun(maker.get());
        probe.shadowsThatAreThere(maker.get());
        for (int view = 0; view < VIEWS; view++) {
            probe.viewAmongOthers(maker.get(), view);
        }
        probe.roomForRules(maker.get());
        return probe.text.toString();
    }

    /** What can be asked without any change. */
    static String ofAnswers(StemShapes stem) {
        Probe probe = new Probe();
        probe.answers(stem);
        return probe.text.toString();
    }

    private void answers(StemShapes stem) {
        for (int i : WHOLE_NUMBERS) {
            for (int what = -1; what <= 5; what++) {
                int part = what;
                ask(() -> stem.shape(i, part));
            }
            ask(() -> stem.fitted(i));
            ask(() -> stem.inside(i, 1, -1));
            ask(() -> stem.wholes(i));
            ask(() -> stem.apart(i));
        }
        ask(stem::volume);
        ask(stem::taper);
        ask(stem::sweep);
        ask(stem::cls);
        ask(stem::match);
        text.append('\n');
    }

    private void answersBehindRun(StemShapes stem) {
        ask(stem::run);
        answers(stem);
    }

    private void shadowsThatAreThere(StemShapes stem) {
        for (int slice = 0; slice < SLICES; slice++) {
            for (int view = 0; view < VIEWS; view++) {
                text.append(stem.lift(slice, view)).append(' ');
            }
        }
        text.append('\n');
    }

    /** All other views are told anew, so that every slice is fitted and this view shows in it. */
    private void viewAmongOthers(StemShapes stem, int view) {
        for (int other = 0; other < VIEWS; other++) {
            if (other == view) {
                continue;
            }
            stem.aim(other, AIMS[other][0], AIMS[other][1]);
            for (int slice = 0; slice < SLICES; slice++) {
                stem.shadow(slice, other, other - slice * slice, other + 3 * slice + 7);
            }
        }
        answersBehindRun(stem);
    }

    private void roomForRules(StemShapes stem) {
        for (int i = 0; i < 7; i++) {
            ask(() -> stem.rule(4, 1000, 77));
        }
        viewAmongOthers(stem, 0);
    }

    private void ask(Supplier<Object> question) {
        try {
            text.append(question.get());
        } catch (RuntimeException thrown) {
            text.append(thrown.getClass().getSimpleName());
        }
        text.append(' ');
    }
}
