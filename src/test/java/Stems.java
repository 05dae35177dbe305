/** Stems that several tests use. */
final class Stems {
    private static final double[][] AWKWARD_AIMS = {{0.3, 0.7}, {-1.1, 0.9}, {13.7, -2.3}, {0.1, -5.9}};

    private Stems() {
    }

    /** Views 1, 0 and 0, 1: each slice that is put is a round of a given centre and radius. */
    static StemShapes crossed(int slices) {
        StemShapes stem = new StemShapes(slices, 2);
        stem.aim(1, 0, 1);
        return stem;
    }

    static void put(StemShapes stem, int slice, double x, double y, double radius) {
        stem.shadow(slice, 0, x - radius, x + radius);
        stem.shadow(slice, 1, y - radius, y + radius);
    }

    /**
     * Numbers whose last bits depend on the order of every reckoning. Slices 1, 4, 5 of 7 can be
     * fitted; the shadows are told from the last view to the first, as sums go the other way. The
     * answers that are due of it were reckoned by a program of another language.
     */
    static StemShapes awkward() {
        StemShapes stem = new StemShapes(7, 4);
        for (int view = 0; view < 4; view++) {
            stem.aim(view, AWKWARD_AIMS[view][0], AWKWARD_AIMS[view][1]);
        }
        for (int i : new int[] {1, 4, 5}) {
            for (int v = 3; v >= 0; v--) {
                if (i != 4 || v != 1) {
                    stem.shadow(i, v, -3.3 + 0.7 * i - 1.9 * v, 4.1 + 1.3 * i + 0.37 * v * v);
                }
            }
        }
        stem.shadow(3, 2, 1.7, 9.9);
        return stem;
    }

    /** The same stem with another shadow in view 1. */
    static StemShapes changeAwkward(StemShapes stem) {
        for (int i : new int[] {1, 4, 5}) {
            stem.shadow(i, 1, -0.3 * i, 2.9 + 0.1 * i);
        }
        return stem;
    }
}
