/**
 * Stems from shadows: each slice that was seen in several directions gets a round shape by least
 * squares, the others are mended by their neighbours, and the whole stem is measured, classed by
 * rules, and laid on a kept one.
 *
 * <p>Every reckoning of doubles stands in the document's own order: another order of the same
 * operations can answer another last bit.
 */
public final class StemShapes {
    public static final int NONE = -1;

    private static final int MOST_SLICES = 16;
    private static final int MOST_VIEWS = 8;
    private static final int MOST_RULES = 6;
    private static final int MOST_CLASS = 100;
    private static final int MOST_AIM = 16;
    private static final int MOST_PLACE = 1000;
    private static final int FARTHEST_CELL = 40;
    private static final int ROOT_STEPS = 60;
    private static final int TURNS = 4;

    private static final int SHAPE_X = 0;
    private static final int SHAPE_Y = 1;
    private static final int SHAPE_RADIUS = 2;
    private static final int SHAPE_RESIDUAL = 3;
    private static final int SHAPE_AREA = 4;

    private static final int RULE_SWEEP = 0;
    private static final int RULE_TAPER = 1;
    private static final int RULE_LAST_RADIUS = 2;
    private static final int RULE_VOLUME = 3;
    private static final int RULE_MENDED = 4;

    private static final long MOST_LENGTH = 1000000000L;
    private static final long MOST_UNIT = 1000000L;

    private final int slices;
    private final int views;
    private final Shadows shadows;
    private final Stem stem;
    private final Kept kept;
    private final RuleList rules;
    /** Whether the stem is that of the last run, nothing was told since, and a slice was fitted. */
    private boolean shaped;

    public StemShapes(int slices, int views) {
        this.slices = nearest(slices, MOST_SLICES);
        this.views = nearest(views, MOST_VIEWS);
        this.shadows = new Shadows(this.slices, this.views);
        this.stem = new Stem(this.slices);
        this.kept = new Kept(this.slices);
        this.rules = new RuleList();
    }

    public void aim(int view, double p, double q)
            throws ArrayIndexOutOfBoundsException, IllegalArgumentException {
        needView(view);
        if (!within(p, MOST_AIM) || !within(q, MOST_AIM)) {
            throw new IllegalArgumentException("a direction is of -16 .. 16");
        }
        if (p == 0 && q == 0) {
            throw new IllegalArgumentException("a direction is not 0, 0");
        }
        shadows.direct(view, p, q);
        shaped = false;
    }

    public void shadow(int slice, int view, double from, double to)
            throws ArrayIndexOutOfBoundsException, IllegalArgumentException {
        needSlice(slice);
        needView(view);
        if (!within(from, MOST_PLACE) || !within(to, MOST_PLACE)) {
            throw new IllegalArgumentException("a shadow is of -1000 .. 1000");
        }
        if (to < from) {
            throw new IllegalArgumentException("a shadow ends before it begins");
        }
        shadows.cast(slice, view, from, to);
        shaped = false;
    }

    public boolean lift(int slice, int view) throws ArrayIndexOutOfBoundsException {
        needSlice(slice);
        needView(view);
        boolean was = shadows.takeAway(slice, view);
        if (was) {
            shaped = false;
        }
        return was;
    }

    public int run() {
        int count = 0;
        for (int i = 0; i < slices; i++) {
            stem.isFitted[i] = shadows.fitInto(stem, i);
            if (stem.isFitted[i]) {
                count++;
            }
        }
        stem.mended = slices - count;
        shaped = count > 0;
        if (shaped) {
            stem.mendAll();
        }
        return count;
    }

    public double shape(int slice, int what)
            throws ArrayIndexOutOfBoundsException, IllegalStateException {
        needSlice(slice);
        if (what < SHAPE_X || what > SHAPE_AREA) {
            throw new ArrayIndexOutOfBoundsException("there is no such part of a shape");
        }
        needShape();
        switch (what) {
            case SHAPE_X:
                return stem.x[slice];
            case SHAPE_Y:
                return stem.y[slice];
            case SHAPE_RADIUS:
                return stem.radius[slice];
            case SHAPE_RESIDUAL:
                return stem.residual[slice];
            default:
                return stem.areaOf(slice);
        }
    }

    public boolean fitted(int slice) throws ArrayIndexOutOfBoundsException, IllegalStateException {
        needSlice(slice);
        needShape();
        return stem.isFitted[slice];
    }

    public boolean inside(int slice, double x, double y)
            throws ArrayIndexOutOfBoundsException, IllegalArgumentException, IllegalStateException {
        needSlice(slice);
        if (!within(x, MOST_PLACE) || !within(y, MOST_PLACE)) {
            throw new IllegalArgumentException("a place is of -1000 .. 1000");
        }
        needShape();
        return stem.covers(slice, x, y);
    }

    public int wholes(int slice) throws ArrayIndexOutOfBoundsException, IllegalStateException {
        needSlice(slice);
        needShape();
        return stem.cellsOf(slice);
    }

    public double volume() throws IllegalStateException {
        needShape();
        return stem.sumOfAreas();
    }

    public double taper() throws IllegalStateException {
        needShape();
        return stem.thinning();
    }

    public double sweep() throws IllegalStateException {
        needShape();
        return stem.greatestBend();
    }

    public int rule(int kind, double limit, int cls)
            throws IllegalArgumentException, IllegalStateException {
        if (kind < RULE_SWEEP || kind > RULE_MENDED) {
            throw new IllegalArgumentException("there is no such kind of rule");
        }
        if (cls < 0 || cls > MOST_CLASS) {
            throw new IllegalArgumentException("a class is of 0 .. 100");
        }
        if (rules.isFull()) {
            throw new IllegalStateException("there is no room for a rule");
        }
        return rules.addOne(kind, limit, cls);
    }

    public int cls() throws IllegalStateException {
        needShape();
        return rules.classOf(stem);
    }

    public void keep() throws IllegalStateException {
        needShape();
        kept.take(stem);
    }

    public double apart(int turn) throws IllegalArgumentException, IllegalStateException {
        if (turn < 0 || turn >= TURNS) {
            throw new IllegalArgumentException("a turn is of 0 .. 3");
        }
        needShape();
        needKept();
        return kept.distance(stem, turn);
    }

    public int match() throws IllegalStateException {
        needShape();
        needKept();
        return kept.nearestTurn(stem);
    }

    public long law(long length, long unit, long least) throws IllegalArgumentException {
        if (length < 0 || length > MOST_LENGTH) {
            throw new IllegalArgumentException("a length is of 0 .. 1000000000");
        }
        if (unit < 1 || unit > MOST_UNIT) {
            throw new IllegalArgumentException("a unit is of 1 .. 1000000");
        }
        if (least < 0) {
            throw new IllegalArgumentException("the least length is not below 0");
        }
        long measured = length - length % unit;
        return measured < least ? 0 : measured;
    }

    private void needSlice(int slice) {
        if (slice < 0 || slice >= slices) {
            throw new ArrayIndexOutOfBoundsException("there is no such slice");
        }
    }

    private void needView(int view) {
        if (view < 0 || view >= views) {
            throw new ArrayIndexOutOfBoundsException("there is no such view");
        }
    }

    private void needShape() {
        if (!shaped) {
            throw new IllegalStateException("there is no shape of what was told");
        }
    }

    private void needKept() {
        if (!kept.isThere) {
            throw new IllegalStateException("no stem is kept");
        }
    }

    private static int nearest(int wish, int most) {
        return Math.max(1, Math.min(wish, most));
    }

    /** Said so that it is false of what is no number. */
    private static boolean within(double value, int most) {
        return value >= -most && value <= most;
    }

    /** Never 0, even of w = 0: half of (w + 1), at least halved 60 times, stays far above 0. */
    private static double root(double w) {
        double r = (w + 1) / 2;
        for (int step = 0; step < ROOT_STEPS; step++) {
            r = (r + w / r) / 2;
        }
        return r;
    }

    /** The directions of the views, and the shadows of all slices in them. */
    private static final class Shadows {
        private final int views;
        private final double[] p;
        private final double[] q;
        /** Reckoned when a view is aimed: a run needs it once for every shadow. */
        private final double[] length;
        /** These three hold the shadow of a slice in a view at place(slice, view). */
        private final boolean[] there;
        private final double[] middle;
        private final double[] half;

        Shadows(int slices, int views) {
            this.views = views;
            p = new double[views];
            q = new double[views];
            length = new double[views];
            there = new boolean[slices * views];
            middle = new double[slices * views];
            half = new double[slices * views];
            for (int view = 0; view < views; view++) {
                p[view] = 1;
                length[view] = root(1);
            }
        }

        void direct(int view, double newP, double newQ) {
            p[view] = newP;
            q[view] = newQ;
            length[view] = root(newP * newP + newQ * newQ);
        }

        void cast(int slice, int view, double from, double to) {
            int at = place(slice, view);
            there[at] = true;
            middle[at] = (from + to) / 2;
            half[at] = (to - from) / 2;
        }

        boolean takeAway(int slice, int view) {
            int at = place(slice, view);
            boolean was = there[at];
            there[at] = false;
            return was;
        }

        /** Whether the slice can be fitted; if not, its row in the stem is left for mending. */
        boolean fitInto(Stem stem, int slice) {
            int count = countOf(slice);
            if (count < 2 || !fitCentre(stem, slice)) {
                return false;
            }
            stem.radius[slice] = sumOfRadii(slice) / count;
            stem.residual[slice] = sumOfErrors(slice, stem.x[slice], stem.y[slice]);
            return true;
        }

        private int place(int slice, int view) {
            return slice * views + view;
        }

        private int countOf(int slice) {
            int count = 0;
            for (int view = 0; view < views; view++) {
                if (there[place(slice, view)]) {
                    count++;
                }
            }
            return count;
        }

        private boolean fitCentre(Stem stem, int slice) {
            double a = 0;
            double b = 0;
            double c = 0;
            double d = 0;
            double e = 0;
            for (int view = 0; view < views; view++) {
                int at = place(slice, view);
                if (there[at]) {
                    a += p[view] * p[view];
                    b += p[view] * q[view];
                    c += q[view] * q[view];
                    d += p[view] * middle[at];
                    e += q[view] * middle[at];
                }
            }
            double det = a * c - b * b;
            double size = det < 0 ? -det : det;
            if (size < 1.0 / 1048576.0) {
                return false;
            }
            stem.x[slice] = (d * c - e * b) / det;
            stem.y[slice] = (a * e - b * d) / det;
            return true;
        }

        private double sumOfRadii(int slice) {
            double sum = 0;
            for (int view = 0; view < views; view++) {
                int at = place(slice, view);
                if (there[at]) {
                    sum += half[at] / length[view];
                }
            }
            return sum;
        }

        private double sumOfErrors(int slice, double x, double y) {
            double sum = 0;
            for (int view = 0; view < views; view++) {
                int at = place(slice, view);
                if (there[at]) {
                    double error = middle[at] - p[view] * x - q[view] * y;
                    sum += error * error;
                }
            }
            return sum;
        }
    }

    /** The shapes of all slices, as the last run left them. */
    private static final class Stem {
        private final int slices;
        private final double[] x;
        private final double[] y;
        private final double[] radius;
        private final double[] residual;
        private final boolean[] isFitted;
        private int mended;

        Stem(int slices) {
            this.slices = slices;
            x = new double[slices];
            y = new double[slices];
            radius = new double[slices];
            residual = new double[slices];
            isFitted = new boolean[slices];
        }

        /** To be called only if a slice is fitted. */
        void mendAll() {
            for (int i = 0; i < slices; i++) {
                if (!isFitted[i]) {
                    mendOne(i, fittedBefore(i), fittedBehind(i));
                }
            }
        }

        double areaOf(int slice) {
            return 3.140625 * radius[slice] * radius[slice];
        }

        boolean covers(int slice, double atX, double atY) {
            double dx = atX - x[slice];
            double dy = atY - y[slice];
            return dx * dx + dy * dy <= radius[slice] * radius[slice];
        }

        int cellsOf(int slice) {
            int count = 0;
            for (int i = -FARTHEST_CELL; i <= FARTHEST_CELL; i++) {
                for (int j = -FARTHEST_CELL; j <= FARTHEST_CELL; j++) {
                    if (covers(slice, i, j)) {
                        count++;
                    }
                }
            }
            return count;
        }

        double sumOfAreas() {
            double sum = 0;
            for (int i = 0; i < slices; i++) {
                sum += areaOf(i);
            }
            return sum;
        }

        double thinning() {
            if (slices == 1) {
                return 0;
            }
            return (radius[0] - radius[slices - 1]) / (slices - 1);
        }

        double greatestBend() {
            double greatest = 0;
            if (slices == 1) {
                return greatest;
            }
            for (int i = 0; i < slices; i++) {
                double dx = x[i] - straight(x, i);
                double dy = y[i] - straight(y, i);
                double bend = dx * dx + dy * dy;
                if (bend > greatest) {
                    greatest = bend;
                }
            }
            return greatest;
        }

        double lastRadius() {
            return radius[slices - 1];
        }

        /** Where slice i would be if the stem went straight from its first slice to its last. */
        private double straight(double[] row, int i) {
            return row[0] + (row[slices - 1] - row[0]) * i / (slices - 1);
        }

        private int fittedBefore(int slice) {
            for (int i = slice - 1; i >= 0; i--) {
                if (isFitted[i]) {
                    return i;
                }
            }
            return NONE;
        }

        private int fittedBehind(int slice) {
            for (int i = slice + 1; i < slices; i++) {
                if (isFitted[i]) {
                    return i;
                }
            }
            return NONE;
        }

        private void mendOne(int i, int before, int behind) {
            // With a neighbour on one side alone, both ends are that one: its numbers are copied.
            int a = before == NONE ? behind : before;
            int b = behind == NONE ? before : behind;
            if (a == NONE || b == NONE) {
                return;
            }
            x[i] = between(x, i, a, b);
            y[i] = between(y, i, a, b);
            radius[i] = between(radius, i, a, b);
            residual[i] = 0;
        }

        private static double between(double[] row, int i, int a, int b) {
            if (a == b) {
                return row[a];
            }
            return row[a] + (row[b] - row[a]) * (i - a) / (b - a);
        }
    }

    /** The centres of a stem that was kept, on which a later one is laid. */
    private static final class Kept {
        private final double[] x;
        private final double[] y;
        private boolean isThere;

        Kept(int slices) {
            x = new double[slices];
            y = new double[slices];
        }

        void take(Stem stem) {
            for (int i = 0; i < x.length; i++) {
                x[i] = stem.x[i];
                y[i] = stem.y[i];
            }
            isThere = true;
        }

        double distance(Stem stem, int turn) {
            double sum = 0;
            for (int i = 0; i < x.length; i++) {
                double dx = stem.x[i] - turnedX(i, turn);
                double dy = stem.y[i] - turnedY(i, turn);
                sum += dx * dx + dy * dy;
            }
            return sum;
        }

        int nearestTurn(Stem stem) {
            int best = 0;
            double least = distance(stem, 0);
            for (int turn = 1; turn < TURNS; turn++) {
                double now = distance(stem, turn);
                if (now < least) {
                    least = now;
                    best = turn;
                }
            }
            return best;
        }

        private double turnedX(int i, int turn) {
            switch (turn) {
                case 0:
                    return x[i];
                case 1:
                    return -y[i];
                case 2:
                    return -x[i];
                default:
                    return y[i];
            }
        }

        private double turnedY(int i, int turn) {
            switch (turn) {
                case 0:
                    return y[i];
                case 1:
                    return x[i];
                case 2:
                    return -y[i];
                default:
                    return -x[i];
            }
        }
    }

    /** The rules, in the order in which they were told. */
    private static final class RuleList {
        private final int[] kinds = new int[MOST_RULES];
        private final double[] limits = new double[MOST_RULES];
        private final int[] classes = new int[MOST_RULES];
        private int count;

        boolean isFull() {
            return count >= MOST_RULES;
        }

        /** How many rules there are then; to be called only if there is room. */
        int addOne(int kind, double limit, int cls) {
            kinds[count] = kind;
            limits[count] = limit;
            classes[count] = cls;
            count++;
            return count;
        }

        int classOf(Stem stem) {
            for (int i = 0; i < count; i++) {
                if (holds(stem, kinds[i], limits[i])) {
                    return classes[i];
                }
            }
            return NONE;
        }

        /** Comparisons as they stand are false of a limit that is no number: it never holds. */
        private static boolean holds(Stem stem, int kind, double limit) {
            switch (kind) {
                case RULE_SWEEP:
                    return stem.greatestBend() <= limit;
                case RULE_TAPER:
                    return stem.thinning() <= limit;
                case RULE_LAST_RADIUS:
                    return stem.lastRadius() >= limit;
                case RULE_VOLUME:
                    return stem.sumOfAreas() >= limit;
                default:
                    return stem.mended <= limit;
            }
        }
    }
}
