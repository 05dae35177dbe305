/**
 * "All of it is reckoned in doubles by the operations told here: * and / from the left to the right,
 * before + and -, these from the left to the right; sums begin with 0 and go from the first one on."
 * The last bits of these answers depend on that order; a program of another language reckoned them.
 */
public final class ReckoningTest {
    private static final double[][] AIMS = {
        {0.3, 0.7}, {-1.1, 0.9}, {13.7, -2.3}, {0.1, -5.9}, {7.7, 11.3}, {-0.7, -0.1}, {3.9, 0.2},
        {-15.1, 14.3}
    };
    private static final int[] SEEN = {0, 3, 10, 15};
    /** Of each slice: x, y, radius, residual and area. */
    private static final double[][] SHAPES = {
        {7.861652436126382e-05, 0.16994193545561448, 5.862056937837434, 2.1061843219160514,
            107.92353156300074},
        {0.0519103377444722, 0.06386065166310083, 5.926553020662415, 0.0,
            110.31140893830128},
        {0.10374205896458313, -0.04222063212941282, 5.991049103487396, 0.0,
            112.72541470999722},
        {0.15557378018469406, -0.1483019159219265, 6.055545186312377, 27.179823557474364,
            115.1655488780886},
        {0.22530187618368458, 0.1205079313334245, 6.636875324542203, 0.0,
            138.33860826213987},
        {0.29502997218267507, 0.3893177785887755, 7.218205462772029, 0.0,
            163.63438297908098},
        {0.36475806818166556, 0.6581276258441265, 7.799535601001855, 0.0,
            191.05287302891202},
        {0.4344861641806561, 0.9269374730994775, 8.38086573923168, 0.0,
            220.59407841163286},
        {0.5042142601796465, 1.1957473203548286, 8.962195877461507, 0.0,
            252.25799912724366},
        {0.5739423561786371, 1.4645571676101796, 9.543526015691334, 0.0,
            286.0446351757444},
        {0.6436704521776275, 1.7333670148655307, 10.12485615392116, 922.7099608827643,
            321.95398655713484},
        {1.0203113669430561, 0.386389482006539, 12.94857303172832, 0.0,
            526.5745977368498},
        {1.3969522817084847, -0.9605880508524527, 15.772289909535479, 0.0,
            781.2779832355839},
        {1.7735931964739136, -2.307565583711444, 18.59600678734264, 0.0,
            1086.0641430533374},
        {2.1502341112393424, -3.6545431165704363, 21.419723665149796, 0.0,
            1440.9330771901095},
        {2.5268750260047708, -5.001520649429428, 24.243440542956957, 4545.996944854668,
            1845.884785645902},
    };
    private static final Due DUE = new Due();

    public static void main(String[] args) {
        shapes();
        wholeStem();
        keptStem();
        edgeOfInside();
        leastNumbers();
        DUE.end();
    }

    private static void shapes() {
        StemShapes stem = wide();
        DUE.answer("run()", stem.run(), SEEN.length);
        for (int slice = 0; slice < SHAPES.length; slice++) {
            for (int what = 0; what < 5; what++) {
                DUE.answer("shape(" + slice + ", " + what + ")", stem.shape(slice, what),
                        SHAPES[slice][what]);
            }
        }
    }

    private static void wholeStem() {
        StemShapes stem = wide();
        stem.run();
        DUE.answer("volume()", stem.volume(), 7700.737054493058);
        DUE.answer("taper()", stem.taper(), -1.225425573674635);
        DUE.answer("sweep()", stem.sweep(), 26.1943447190244);
        change(stem);
        stem.run();
        DUE.answer("volume() of another stem", stem.volume(), 5896.844611992725);
        DUE.answer("taper() of another stem", stem.taper(), -1.023625683171334);
        DUE.answer("sweep() of another stem", stem.sweep(), 10.99009226179188);
    }

    private static void keptStem() {
        StemShapes stem = wide();
        stem.run();
        stem.keep();
        change(stem);
        stem.run();
        double[] due = {
            12.746875628561291, 74.49944282431531, 205.11007805666065, 143.35751086090664
        };
        for (int turn = 0; turn < 4; turn++) {
            DUE.answer("apart(" + turn + ")", stem.apart(turn), due[turn]);
        }
    }

    /** The places inside slice 5 are so near to its edge that another order would put them outside. */
    private static void edgeOfInside() {
        double[][] inside = {
            {-0.1627957020853491, -6.814353907070767},
            {-3.9852617167029267, -5.422875711037047},
            {5.762948612797472, 5.101467589705693},
            {-6.652035972008666, -1.5704691664256125},
        };
        double[][] outside = {
            {7.060893545899955, -2.1257528376440193},
            {7.488745019089163, 0.9834170351976002},
            {5.282481037588096, -4.828710773745746},
            {7.4692508623969776, -0.40632329702551717},
        };
        StemShapes stem = wide();
        stem.run();
        for (int i = 0; i < 4; i++) {
            DUE.answer("a place inside, " + i, stem.inside(5, inside[i][0], inside[i][1]), true);
            DUE.answer("a place outside, " + i, stem.inside(5, outside[i][0], outside[i][1]), false);
        }
    }

    /** "MIDDLE = (from + to) / 2, HALF = (to - from) / 2": halved before, these would be 0. */
    private static void leastNumbers() {
        double least = Double.MIN_VALUE;
        StemShapes stem = Stems.crossed(1);
        stem.shadow(0, 0, least, least);
        stem.shadow(0, 1, -least, -least);
        stem.run();
        DUE.answer("the least x", stem.shape(0, 0), least);
        DUE.answer("the greatest y below 0", stem.shape(0, 1), -least);
        stem.shadow(0, 0, -least, least);
        stem.shadow(0, 1, -least, least);
        stem.run();
        DUE.answer("the least radius", stem.shape(0, 2), least);
    }

    /** Four slices of sixteen can be fitted; shadows are told from the last view to the first. */
    private static StemShapes wide() {
        StemShapes stem = new StemShapes(16, 8);
        for (int view = 0; view < 8; view++) {
            stem.aim(view, AIMS[view][0], AIMS[view][1]);
        }
        for (int i : SEEN) {
            for (int v = 7; v >= 0; v--) {
                if ((i + v) % 3 != 1) {
                    stem.shadow(i, v, -3.3 + 0.7 * i - 1.9 * v, 4.1 + 0.3 * i * i + 0.37 * v * v);
                }
            }
        }
        return stem;
    }

    private static void change(StemShapes stem) {
        for (int i : SEEN) {
            stem.shadow(i, 4, -0.3 * i, 2.9 + 0.1 * i);
        }
    }
}
