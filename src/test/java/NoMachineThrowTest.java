import java.util.Random;

/**
 * Long runs of wild calls: what is thrown is what the call's promise names, thrown by the class
 * itself and not by the Java machine, and no number that is answered is NaN.
 */
public final class NoMachineThrowTest {
    private static final int OBJECTS = 400;
    private static final int CALLS = 512;
    private static final int[] INTS = {
        -1, 0, 1, 2, 3, 4, 5, 7, 8, 15, 16, 17, 100, 101, Integer.MIN_VALUE, Integer.MAX_VALUE
    };
    private static final double[] DOUBLES = {
        0, -0.0, 1, -1, 0.5, -3.25, 16, -16, 1000, -1000, 1000.5, 1e-160, -1e-160, 1e-5, 1.0 / 1024,
        Double.MIN_VALUE, Double.MAX_VALUE, -Double.MAX_VALUE, Double.NaN,
        Double.POSITIVE_INFINITY, Double.NEGATIVE_INFINITY
    };
    private static final long[] LONGS = {
        -1, 0, 1, 7, 1000000, 1000001, 1000000000, 1000000001, Long.MIN_VALUE, Long.MAX_VALUE
    };
    private static final String[] THROWS = {
        "AI", "AI", "A", "", "AS", "AS", "AIS", "AS", "S", "S", "S", "IS", "S", "S", "IS", "S", "I"
    };
    private static final Due DUE = new Due();
    private static final Random RANDOM = new Random(20261116);

    public static void main(String[] args) {
        for (int object = 0; object < OBJECTS; object++) {
            StemShapes stem = new StemShapes(anInt(), anInt());
            for (int call = 0; call < CALLS; call++) {
                int which = RANDOM.nextInt(THROWS.length + 8);
                // More of the calls that tell something, so that many runs have a shape.
                check(stem, which < THROWS.length ? which : which % 4);
            }
        }
        DUE.end();
    }

    private static void check(StemShapes stem, int which) {
        try {
            double answer = call(stem, which);
            DUE.answer("call " + which + " answers NaN", answer != answer, false);
        } catch (RuntimeException thrown) {
            if (!THROWS[which].contains(letter(thrown)) || Due.isOfMachine(thrown)) {
                DUE.complain("call " + which, thrown.toString(), "one of " + THROWS[which]);
            }
        }
    }

    private static String letter(RuntimeException thrown) {
        if (thrown.getClass() == ArrayIndexOutOfBoundsException.class) {
            return "A";
        }
        if (thrown.getClass() == IllegalArgumentException.class) {
            return "I";
        }
        return thrown.getClass() == IllegalStateException.class ? "S" : "another";
    }

    private static double call(StemShapes stem, int which) {
        switch (which) {
            case 0:
                stem.aim(anInt(), aDouble(), aDouble());
                return 0;
            case 1:
                stem.shadow(anInt(), anInt(), aDouble(), aDouble());
                return 0;
            case 2:
                return stem.lift(anInt(), anInt()) ? 1 : 0;
            case 3:
                return stem.run();
            case 4:
                return stem.shape(anInt(), anInt());
            case 5:
                return stem.fitted(anInt()) ? 1 : 0;
            case 6:
                return stem.inside(anInt(), aDouble(), aDouble()) ? 1 : 0;
            case 7:
                return stem.wholes(anInt());
            case 8:
                return stem.volume();
            case 9:
                return stem.taper();
            case 10:
                return stem.sweep();
            case 11:
                return stem.rule(anInt(), aDouble(), anInt());
            case 12:
                return stem.cls();
            case 13:
                stem.keep();
                return 0;
            case 14:
                return stem.apart(anInt());
            case 15:
                return stem.match();
            default:
                return stem.law(aLong(), aLong(), aLong());
        }
    }

    private static int anInt() {
        return RANDOM.nextInt(3) > 0 ? RANDOM.nextInt(4) : INTS[RANDOM.nextInt(INTS.length)];
    }

    private static double aDouble() {
        return RANDOM.nextInt(3) > 0
                ? RANDOM.nextDouble() * 32 - 16
                : DOUBLES[RANDOM.nextInt(DOUBLES.length)];
    }

    private static long aLong() {
        return LONGS[RANDOM.nextInt(LONGS.length)];
    }
}
