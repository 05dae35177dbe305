/** Counts and prints the answers of a test that are not the ones that are due. */
final class Due {
    private int wrong;

    void answer(String call, double got, double want) {
        if (got != want) {
            complain(call, String.valueOf(got), String.valueOf(want));
        }
    }

    void answer(String call, boolean got, boolean want) {
        if (got != want) {
            complain(call, String.valueOf(got), String.valueOf(want));
        }
    }

    void noRange(String call, Runnable run) {
        refused(call, ArrayIndexOutOfBoundsException.class, run);
    }

    void noArgument(String call, Runnable run) {
        refused(call, IllegalArgumentException.class, run);
    }

    void noState(String call, Runnable run) {
        refused(call, IllegalStateException.class, run);
    }

    void complain(String call, String got, String want) {
        wrong++;
        System.out.println(call + " answered " + got + ", due is " + want);
    }

    /** Ends the test's process, with exit code 1 if an answer was wrong. */
    void end() {
        if (wrong != 0) {
            System.out.println(wrong + " answers are not as due");
            System.exit(1);
        }
    }

    /** The Java machine's own exceptions tell their numbers; the class throws written texts. */
    static boolean isOfMachine(RuntimeException thrown) {
        String text = thrown.getMessage();
        return text == null || text.startsWith("Index ") || text.startsWith("/ by ")
                || text.startsWith("Cannot ") || text.matches("-?\\d+");
    }

    private void refused(String call, Class<? extends RuntimeException> want, Runnable run) {
        String got = "nothing thrown";
        try {
            run.run();
        } catch (RuntimeException thrown) {
            if (thrown.getClass() == want && !isOfMachine(thrown)) {
                return;
            }
            got = thrown.toString();
        }
        complain(call, got, "throws." + want.getSimpleName());
    }
}
