/** The bounds that the document names of what else samples can be, spikes, the photograph, measures and parting. */
final class GuessBounds {

    private static final int NONE = Bounds.NONE;
    private static final int NO_VALUE = Bounds.NO_VALUE;
    private static final int[] GAINS = {1, 2, 5, 10, 20, 50, 100, 200};

    private GuessBounds() {
    }

    // ---- what else the samples can be

    private static GreenLine square(int height, int period, int width, int from, int pace) {
        GreenLine x = new GreenLine();
        x.part(0, 1, height, period, width, from);
        x.base(pace, 0, 16);
        return x;
    }

    private static void elses(String name, GreenLine x, int tick, int... due) {
        Bounds.due(name + ": how many", x.otherwise(0, tick, NONE), due.length);
        for (int i = 0; i < due.length; i++) Bounds.due(name + ": " + i, x.otherwise(0, tick, i), due[i]);
        Bounds.due(name + ": behind the last", x.otherwise(0, tick, due.length), NONE);
    }

    static void twentySamples() {
        Bounds.sentence(18, "SAMPLES of a CHANNEL from a TICK t: its OUT at t + k PACE, k 0 .. 19.");
        int[][] tickAndPace = {{0, 1}, {0, 7}, {3, 7}, {0, 49}, {999, 49}, {1000, 1}, {1000, 49}};
        for (int[] of : tickAndPace) {
            int last = of[0] + 19 * of[1];
            GreenLine x = square(5, 2, 1, 0, of[1]);
            int many = x.otherwise(0, of[0], NONE);
            x.part(0, 0, 3, 1, 0, last + 1);
            Bounds.due("just behind the last sample", x.otherwise(0, of[0], NONE), many);
            x = square(5, 2, 1, 0, of[1]);
            x.part(0, 0, 3, 1, 0, last);
            Bounds.due("at the last sample", x.otherwise(0, of[0], NONE), 0);
        }
        GreenLine x = square(5, 2, 1, 0, 1);
        x.part(0, 1, 3, 500, 1, 6);
        Bounds.due("at the first sample", x.otherwise(0, 6, NONE), 0);
        Bounds.due("just ahead of the first sample", x.otherwise(0, 7, NONE), 1);
        x = square(5, 1, 1, 0, 50);
        Bounds.due("the last sample at 1950", x.otherwise(0, 1000, NONE) > 0, true);
        x.part(0, 0, 3, 1, 0, 1951);
        Bounds.due("just behind it", x.otherwise(0, 1000, NONE) > 0, true);
        x.part(0, 0, 3, 1, 0, 1950);
        Bounds.due("at it", x.otherwise(0, 1000, NONE), 0);
    }

    static void elsePeriods() {
        Bounds.sentence(18, "ELSE: SQUARES with a PERIOD 2 .. 24,");
        elses("period 2", square(5, 2, 1, 0, 1), 0, 20100);
        elses("period 3", square(5, 3, 1, 0, 1), 0, 30100);
        elses("period 24", square(5, 24, 12, 0, 7), 0, 241200);
        elses("period 24 of a slower pace", square(5, 24, 12, 0, 11), 0, 241200);
        elses("period 25", square(5, 25, 12, 0, 7), 0);
        elses("period 24 and less", square(5, 24, 13, 5, 1), 0, 181305, 191305, 201305, 211305, 221305, 231305, 241305);
        elses("period 1 is none, though it is like that", square(5, 1, 1, 0, 1), 0, 212000, 222000, 222100, 222121,
                232000, 232100, 232122, 232200, 232221, 232222, 242000, 242100, 242123, 242200, 242222, 242223,
                242300, 242321, 242322, 242323);
    }

    static void elseWidths() {
        Bounds.sentence(18, "a WIDTH 1 .. PERIOD - 1,");
        elses("width 1", square(5, 24, 1, 0, 5), 0, 210100, 220100, 230100, 240100);
        elses("width 23", square(5, 24, 23, 23, 5), 0, 161507, 171603, 181717, 191814, 212008, 222105, 232202, 242323);
        elses("width 2 of 3", square(5, 3, 2, 2, 1), 0, 30202);
        elses("width 0 is none", square(5, 24, 0, 0, 5), 0);
    }

    static void elseFroms() {
        Bounds.sentence(18, "FROM 0 .. PERIOD - 1,");
        elses("from 0", square(5, 2, 1, 0, 1), 0, 20100);
        elses("from period - 1", square(5, 2, 1, 1, 1), 0, 20101);
        elses("from 2 is as from 0", square(5, 2, 1, 2, 1), 0, 20100);
        elses("from 1999 is as from 7", square(5, 8, 4, 1999, 1), 0, 80407);
        elses("by ticks, wherever samples begin", square(5, 8, 4, 1999, 1), 1000, 80407);
        elses("by ticks, wherever samples begin", square(5, 2, 1, 1, 1), 999, 20101);
    }

    static void elseHeights() {
        Bounds.sentence(18, "and the greatest SAMPLE as HEIGHT, that by themselves are as all SAMPLES at these TICKS;");
        elses("height 1", square(1, 2, 1, 0, 1), 0, 20100);
        elses("height 999", square(999, 2, 1, 0, 1), 0, 20100);
        GreenLine x = square(999, 2, 1, 0, 1);
        x.part(0, 1, 999, 2, 1, 0);
        elses("height 1998", x, 0, 20100);
        x = square(5, 2, 1, 0, 1);
        x.part(0, 0, 1, 1, 0, 0);
        elses("1 and 6", x, 0);
        x = square(5, 2, 1, 0, 1);
        x.part(0, 1, -1, 2, 1, 1);
        elses("-1 and 5", x, 0);
        x = square(5, 2, 1, 0, 1);
        x.part(0, 1, 1, 500, 1, 18);
        elses("one is greater", x, 0);
        x = square(5, 2, 1, 0, 1);
        x.probe(0, 20, 3, 16);
        elses("out is 33", x, 0, 20100);
    }

    static void elseOrder() {
        Bounds.sentence(18, "in the order of PERIOD, WIDTH, FROM.");
        GreenLine x = square(5, 500, 1, 0, 1);
        elses("a spike at the first sample", x, 0, 200100, 210100, 210220, 220100, 220221, 220320, 230100, 230222,
                230321, 230420, 240100, 240223, 240322, 240421, 240520);
        x = new GreenLine();
        x.part(0, 0, 5, 1, 0, 1);
        x.base(1, 0, 16);
        elses("a 0 at the first sample", x, 0, 201901, 211901, 212001, 221901, 222001, 222101, 231901, 232001, 232101,
                232201, 241901, 242001, 242101, 242201, 242301);
    }

    static void elseNone() {
        Bounds.sentence(18, "None, if the greatest isn't above 0.");
        elses("all are 0", new GreenLine(), 0);
        elses("all are -5", square(-5, 1, 1, 0, 1), 0);
        elses("0 and -5", square(-5, 2, 1, 0, 1), 0);
        elses("0 and 1", square(1, 2, 1, 0, 1), 0, 20100);
        GreenLine x = square(-5, 2, 1, 0, 1);
        x.part(0, 0, -1, 1, 0, 0);
        elses("-1 and -6", x, 0);
    }

    static void otherwiseAnswers() {
        Bounds.sentence(18, "ELSE (tick 0 .. 1000): how many (i NONE), the i-th: 10000 PERIOD + 100 WIDTH + FROM."
                + " NONE if there is none such, and for others.");
        GreenLine x = square(5, 2, 1, 0, 1);
        for (int tick : new int[] {0, 1, 999, 1000}) elses("tick " + tick, x, tick, 20100);
        Bounds.due("far", x.otherwise(0, 0, Bounds.FAR), NONE);
        Bounds.due("channel 1 has none", x.otherwise(1, 0, NONE), 0);
        Bounds.due("channel 1 has none", x.otherwise(1, 0, 0), NONE);
        Bounds.refuses("tick", (y, tick) -> y.otherwise(0, tick, NONE), NONE,
                -1, 1001, 1999, Bounds.DEEP, Bounds.FAR);
        Bounds.refuses("channel", (y, c) -> y.otherwise(c, 0, NONE), NONE, -1, 2, Bounds.DEEP, Bounds.FAR);
        Bounds.refuses("i", (y, i) -> y.otherwise(0, 0, i), NONE, -2, Bounds.DEEP);
    }

    // ---- caught

    static void lastPart() {
        Bounds.sentence(19, "CAUGHT: of a SIGNAL whose last PART is a SQUARE:");
        GreenLine x = new GreenLine();
        x.part(0, 1, 9, 10, 1, 0);
        Bounds.due("the only one", x.caught(0, 1), 1);
        x.part(0, 0, 9, 10, 1, 0);
        Bounds.due("a step is the last", x.caught(0, 1), NONE);
        x.part(0, 2, 9, 10, 1, 0);
        Bounds.due("a saw is the last", x.caught(0, 1), NONE);
        x.part(0, 1, 9, 10, 2, 0);
        Bounds.due("a square of width 2 is the last", x.caught(0, 1), 2);
        x.part(0, 1, 9, 10, 3, 0);
        x.part(0, 1, 9, 10, 4, 0);
        Bounds.due("the last of six", x.caught(0, 1), 4);
        Bounds.due("a 7th", x.part(0, 0, 9, 10, 1, 0), NONE);
        Bounds.due("the last of six still", x.caught(0, 1), 4);
        x.clear(0);
        Bounds.due("none any more", x.caught(0, 1), NONE);
    }

    private static void caughts(int period, int width, int pace, int t, int due) {
        GreenLine x = square(9, period, width, 1998, pace);
        Bounds.due("of period " + period + ", width " + width + " by pace " + pace + " up to " + t,
                x.caught(0, t), due);
        GreenLine y = square(9, period, width, 1998, pace);
        for (int tick : new int[] {0, 1, 2, 3, 8, 9, 10, 498, 499, 1998, 1999}) {
            Bounds.due("from is as it was, raw at " + tick, x.raw(0, tick), y.raw(0, tick));
            Bounds.due("from is as it was, out at " + tick, x.out(0, tick), y.out(0, tick));
        }
    }

    static void eachFrom() {
        Bounds.sentence(19, "for FROM 0 .. PERIOD - 1 (of that PART) each, SWEPT up to T:");
        caughts(1, 0, 1, 2000, 0);
        caughts(1, 1, 1, 1, 1);
        caughts(1, 500, 50, 2000, 1);
        caughts(2, 1, 1, 1, 1);
        caughts(2, 1, 1, 2, 2);
        caughts(10, 1, 1, 9, 9);
        caughts(10, 1, 1, 10, 10);
        caughts(10, 0, 1, 2000, 0);
        caughts(10, 9, 1, 1, 9);
        caughts(10, 10, 1, 1, 10);
        caughts(10, 11, 1, 1, 10);
        caughts(10, 500, 1, 1, 10);
        caughts(500, 1, 1, 1, 1);
        caughts(500, 1, 1, 499, 499);
        caughts(500, 1, 1, 500, 500);
        caughts(500, 1, 1, 2000, 500);
        caughts(500, 500, 1, 1, 500);
        caughts(500, 2, 1, 1, 2);
        caughts(500, 1, 10, 2000, 50);
        caughts(500, 1, 50, 950, 10);
        caughts(50, 1, 10, 40, 4);
        caughts(50, 1, 10, 41, 5);
    }

    /** A square that a sweep begins on is caught, wherever it is, if it is far enough ahead of T. */
    static void triggeredBySpike() {
        Bounds.sentence(19, "SWEPT up to T: of how many of these some dot's TICK that is drawn");
        GreenLine x = Bounds.told("begin now>0;");
        x.part(0, 1, 100, 50, 1, 7);
        Bounds.due("each from below T", x.caught(0, 49), 49);
        Bounds.due("each", x.caught(0, 50), 50);
        x.base(1, 1, 16);
        Bounds.due("a sweep that begins 1 behind it, up to 50", x.caught(0, 50), 0);
        Bounds.due("from 0: 1 .. 20 is swept; 50 triggers", x.caught(0, 71), 0);
        x.clear(0);
        x.part(0, 1, 100, 50, 2, 7);
        Bounds.due("of width 2: 1 behind it is on too", x.caught(0, 51), 50);
        x.base(50, 0, 16);
        x.by(NONE);
        Bounds.due("0, 50 and so on", x.caught(0, 2000), 2);
    }

    static void channelsTurn() {
        Bounds.sentence(19, "in the CHANNEL's turn (of MODE 3: any) lies where that PART's PHASE is below WIDTH,"
                + " the CHANNEL having this SIGNAL");
        GreenLine x = square(9, 500, 1, 0, 1);
        // Up to 40: sweep 0 at 0 .. 19, sweep 1 at 20 .. 39. Chopped by 5: of 40 ticks 20 are channel 0's.
        int[][] due = {{0, 40, 0}, {1, 20, 20}, {2, 20, 20}, {3, 40, 40}};
        for (int[] d : due) {
            x.mode(d[0], 5);
            x.channel(0, 0, 10, 0);
            x.channel(1, 1, 10, 0);
            Bounds.due("channel 0 has it, mode " + d[0], x.caught(0, 40), d[1]);
            x.channel(0, 2, 10, 0);
            x.channel(1, 0, 10, 0);
            Bounds.due("channel 1 has it, mode " + d[0], x.caught(0, 40), d[2]);
            x.channel(0, 0, 10, 0);
            Bounds.due("both have it, mode " + d[0], x.caught(0, 40), 40);
            x.channel(0, 2, 10, 0);
            x.channel(1, 3, 10, 0);
            Bounds.due("none has it, mode " + d[0], x.caught(0, 40), 0);
        }
        x.channel(1, 0, 10, 0);
        x.mode(1, 1);
        Bounds.due("alternate, channel 1's first tick at T", x.caught(0, 20), 0);
        Bounds.due("alternate, channel 1's first tick", x.caught(0, 21), 1);
        x.mode(2, 50);
        Bounds.due("chopped, channel 1's first tick at T", x.caught(0, 50), 0);
        Bounds.due("chopped, channel 1's first tick", x.caught(0, 51), 1);
    }

    static void beyondTheScreen() {
        Bounds.sentence(19, "(dots beyond THE SCREEN count too).");
        GreenLine x = square(999, 10, 1, 0, 1);
        x.channel(0, 0, 1, 0);
        Bounds.due("above it", x.caught(0, 10), 10);
        Bounds.due("below it", square(-999, 10, 1, 0, 1).caught(0, 10), 10);
        x.mode(3, 1);
        Bounds.due("right of it", x.caught(0, 10), 10);
        x.channel(0, 0, 10, 0);
        x.channel(1, 1, 10, 15);
        Bounds.due("above it by channel 1", x.caught(0, 10), 10);
    }

    static void caughtAnswers() {
        Bounds.sentence(19, "CAUGHT. NONE: the SIGNAL's last PART is none, or no SQUARE, and for others.");
        Bounds.takes("caught without parts", (x, signal) -> x.caught(signal, 9), NONE, 0, 1, 2, 3);
        for (int kind = 0; kind < 3; kind++) {
            GreenLine x = new GreenLine();
            x.part(3, kind, 9, 5, 1, 0);
            x.channel(0, 3, 10, 0);
            x.base(1, 0, 16);
            Bounds.due("caught of kind " + kind, x.caught(3, 2000), kind == 1 ? 5 : NONE);
        }
        Bounds.refuses("signal", (x, signal) -> x.caught(signal, 9), NONE, -1, 4, Bounds.DEEP, Bounds.FAR);
        Bounds.refuses("t", (x, t) -> x.caught(0, t), NONE, -1, 0, 2001, Bounds.DEEP, Bounds.FAR);
        Bounds.stays("asking is no change, without a channel", x -> x.caught(2, 90), 0);
        Bounds.changesNothing("caught", x -> x.caught(0, 90));
    }

    // ---- the photograph and its settings

    static void photographAtFirst() {
        Bounds.sentence(20, "THE PHOTOGRAPH: ROWS of each COLUMN (bits; 0 at first).");
        GreenLine x = new GreenLine();
        Bounds.due("nothing lit by 17 is like it", x.settings(1, 17, NONE), 160);
        Bounds.due("one dot is not", x.settings(1, 1, NONE), 0);
        for (int column = 0; column < 20; column++) {
            x.photo(column, 1);
            Bounds.due("column " + column, x.settings(1, 17, NONE), 0);
            x.photo(column, 0);
            Bounds.due("column " + column + " as at first", x.settings(1, 17, NONE), 160);
        }
        for (int row = 0; row < 16; row++) {
            x = Bounds.flat(0, 10, row - 8);
            x.photo(0, 1 << row);
            Bounds.due("row " + row, x.settings(1, 1, NONE), 160);
        }
    }

    /** Sweeps of 21 TICKS of a saw of 16 ROWS: 16 sweeps make each dot there is. */
    private static GreenLine allDots() {
        GreenLine x = Bounds.told("hold 1;");
        x.part(0, 2, 80, 16, 0, 0);
        x.channel(0, 0, 5, -8);
        return x;
    }

    static void photoAnswers() {
        Bounds.sentence(20, "ROWS of a COLUMN of THE PHOTOGRAPH (0 .. 65535): true. False for others.");
        GreenLine x = allDots();
        Bounds.due("each dot is lit", x.lit(336, 1, NONE), 320);
        for (int column = 0; column < 20; column++) {
            Bounds.due("not yet", x.settings(336, 1, NONE), 0);
            Bounds.due("65535", x.photo(column, 65535), true);
        }
        Bounds.due("now", x.settings(336, 1, NONE), 1);
        Bounds.due("it", x.settings(336, 1, 0), 1005);
        Bounds.due("65534", x.photo(19, 65534), true);
        Bounds.due("not row 0", x.settings(336, 1, NONE), 0);
        Bounds.due("0", x.photo(19, 0), true);
        Bounds.refuses("column", (y, column) -> Bounds.number(y.photo(column, 3)), 0, -1, 20, Bounds.DEEP, Bounds.FAR);
        Bounds.refuses("rows", (y, rows) -> Bounds.number(y.photo(0, rows)), 0, -1, 65536, Bounds.DEEP, Bounds.FAR);
    }

    static void shootAnswers() {
        Bounds.sentence(21, "THE PHOTOGRAPH is what is LIT by n, SWEPT up to T: how many dots. NONE for others.");
        GreenLine x = allDots();
        for (int column = 0; column < 20; column++) x.photo(column, 3);
        Bounds.due("all", x.shoot(336, 1), 320);
        Bounds.due("each is there", x.settings(336, 1, 0), 1005);
        Bounds.due("up to 1", x.shoot(1, 1), 1);
        Bounds.due("no column is left as it was", x.settings(1, 1, NONE) > 0, true);
        Bounds.due("by 999", x.shoot(2000, 999), 0);
        Bounds.due("none is there", x.settings(1, 17, NONE), 160);
        Bounds.due("by 16", x.shoot(1, 16), 1);
        Bounds.due("by 17", x.shoot(1, 17), 0);
        Bounds.refuses("t", (y, t) -> y.shoot(t, 1), NONE, -1, 0, 2001, Bounds.DEEP, Bounds.FAR);
        Bounds.refuses("n", (y, n) -> y.shoot(90, n), NONE, -1, 0, 1000, Bounds.DEEP, Bounds.FAR);
    }

    static void triedPaces() {
        Bounds.sentence(22, "SETTINGS: PACE 1 .. 20");
        GreenLine x = new GreenLine();
        x.base(1, 0, 16);
        Bounds.due("20 dots up to 20 by pace 1 alone", x.shoot(20, 1), 20);
        Bounds.due("pace 1", x.settings(20, 1, 0), 1001);
        Bounds.due("that alone", x.settings(20, 1, NONE), 8);
        x.base(20, 0, 16);
        Bounds.due("19 dots up to 380 by pace 20 alone", x.shoot(380, 1), 19);
        Bounds.due("pace 20", x.settings(380, 1, 0), 20001);
        Bounds.due("that alone", x.settings(380, 1, NONE), 8);
        x.base(21, 0, 16);
        Bounds.due("19 dots up to 381 by pace 21 alone", x.shoot(381, 1), 19);
        Bounds.due("pace 21 isn't tried", x.settings(381, 1, NONE), 0);
        Bounds.due("and stays", x.about(2), 21);
    }

    static void triedGains() {
        Bounds.sentence(22, "and GAIN of CHANNEL 0 (1, 2, 5, 10, 20, 50, 100, 200)");
        int[][] outAndGain = {{1, 1}, {200, 200}, {6, 2}, {35, 5}, {70, 10}, {140, 20}, {350, 50}, {700, 100}};
        for (int[] of : outAndGain) {
            GreenLine x = Bounds.flat(of[0], of[1], 0);
            Bounds.due("a dot by gain " + of[1], x.shoot(1, 1), 1);
            Bounds.due("gain " + of[1], x.settings(1, 1, 0), 1000 + of[1]);
            Bounds.due("that alone, by each pace", x.settings(1, 1, NONE), 20);
        }
        for (int gain : new int[] {3, 201, 999}) {
            GreenLine x = Bounds.flat(gain == 3 ? 7 : -2 * gain, gain, 0);
            Bounds.due("a dot by gain " + gain, x.shoot(1, 1), 1);
            Bounds.due("it isn't tried", x.settings(1, 1, NONE), 0);
            Bounds.due("and stays", x.about(12), gain);
        }
        GreenLine x = new GreenLine();
        x.part(1, 0, 7, 1, 0, 0);
        x.channel(1, 1, 3, 0);
        x.mode(2, 1);
        x.base(1, 0, 16);
        x.shoot(2, 1);
        Bounds.due("channel 1's gain is as it is", x.settings(2, 1, NONE), 8);
        Bounds.due("and stays", x.about(13), 3);
    }

    static void justTheDots() {
        Bounds.sentence(22, "by which, SWEPT up to T, just the dots of THE PHOTOGRAPH are LIT by n;");
        GreenLine x = new GreenLine();
        x.base(1, 0, 16);
        x.shoot(3, 1);
        Bounds.due("just these", x.settings(3, 1, NONE), 8);
        x.photo(3, 256);
        Bounds.due("one more in the photograph", x.settings(3, 1, NONE), 0);
        x.photo(3, 0);
        x.photo(2, 0);
        Bounds.due("one less: a slower pace", x.settings(3, 1, 0), 2001);
        x.photo(0, 0);
        Bounds.due("no pace", x.settings(3, 1, NONE), 0);
        x.photo(1, 0);
        Bounds.due("no dot by 16", x.settings(3, 16, NONE), 0);
        Bounds.due("no dot by 17", x.settings(3, 17, NONE), 160);
        x.photo(0, 256 + 128);
        Bounds.due("two rows of a column", x.settings(1, 1, NONE), 0);
    }

    static void settingsInOrder() {
        Bounds.sentence(22, "in the order of PACE, then GAIN.");
        GreenLine x = new GreenLine();
        for (int i = 0; i < 160; i++) {
            Bounds.due("the " + i + "th", x.settings(1, 17, i), 1000 * (1 + i / 8) + GAINS[i % 8]);
        }
        Bounds.due("no 160th", x.settings(1, 17, 160), NONE);
    }

    static void settingsAnswers() {
        Bounds.sentence(22, "SETTINGS: how many (i NONE), the i-th: 1000 PACE + GAIN."
                + " NONE if there is none such, and for others.");
        GreenLine x = new GreenLine();
        Bounds.due("none", x.settings(1, 1, NONE), 0);
        Bounds.due("no 0th of none", x.settings(1, 1, 0), NONE);
        Bounds.due("the first", x.settings(1, 999, 0), 1001);
        Bounds.due("the last", x.settings(1, 999, 159), 20200);
        Bounds.due("far", x.settings(1, 999, Bounds.FAR), NONE);
        x.photo(19, 256);
        Bounds.due("up to 2000", x.settings(2000, 999, NONE), 0);
        Bounds.refuses("t", (y, t) -> y.settings(t, 1, NONE), NONE, -1, 0, 2001, Bounds.DEEP, Bounds.FAR);
        Bounds.refuses("n", (y, n) -> y.settings(90, n, NONE), NONE, -1, 0, 1000, Bounds.DEEP, Bounds.FAR);
        Bounds.refuses("i", (y, i) -> y.settings(90, 1, i), NONE, -2, 160, Bounds.DEEP, Bounds.FAR);
        Bounds.stays("asking is no change", y -> y.settings(1, 999, NONE), 0);
    }

    // ---- measures

    /** CHANNEL 0 has these OUTS from TICK 0 on, the last for good; a row has six at most. */
    private static GreenLine outs(int pace, int... outs) {
        GreenLine x = new GreenLine();
        int last = 0;
        for (int tick = 0; tick < outs.length; tick++) {
            if (outs[tick] != last) x.part(0, 0, outs[tick] - last, 1, 0, tick);
            last = outs[tick];
        }
        x.base(pace, 0, 16);
        return x;
    }

    static void upToB() {
        Bounds.sentence(23, "MEASURES of a CHANNEL from TICK a up to b (b not among them):");
        GreenLine x = outs(1, 10, -20, 30, 5);
        Bounds.due("low of the first", x.measure(0, 0, 1, 0), 10);
        Bounds.due("low of two", x.measure(0, 0, 2, 0), -20);
        Bounds.due("high without b", x.measure(0, 0, 2, 1), 10);
        Bounds.due("high of three", x.measure(0, 0, 3, 1), 30);
        Bounds.due("low without what is ahead of a", x.measure(0, 2, 9, 0), 5);
        Bounds.due("high without what is ahead of a", x.measure(0, 3, 9, 1), 5);
        Bounds.due("wide of one", x.measure(0, 0, 1, 3), 1);
        x = new GreenLine();
        x.part(1, 0, 7, 1, 0, 1999);
        Bounds.due("the last tick", x.measure(1, 0, 2000, 1), 7);
        Bounds.due("all but the last tick", x.measure(1, 0, 1999, 1), 0);
        Bounds.due("the last tick alone", x.measure(1, 1999, 2000, 0), 7);
    }

    static void lowAndHigh() {
        Bounds.sentence(23, "LOW, HIGH: the least, the greatest OUT.");
        int[][] rows = {{0, 0, 0}, {5, 5, 5}, {-5, -5, -5}, {-7, -3, -7}, {3, 9, 3}, {-999, 999, -999}};
        for (int[] row : rows) {
            GreenLine x = new GreenLine();
            Bounds.step(x, 0, row[0], 0);
            Bounds.step(x, 0, row[1] - row[0], 4);
            Bounds.due("low of " + row[0] + ", " + row[1], x.measure(0, 0, 9, 0), row[2]);
            Bounds.due("high of " + row[0] + ", " + row[1], x.measure(0, 0, 9, 1), Math.max(row[0], row[1]));
        }
        GreenLine x = new GreenLine();
        for (int k = 0; k < 6; k++) x.part(0, 1, 999, 8, 4, 0);
        x.probe(0, 20, 1, 16);
        Bounds.due("the greatest there is", x.measure(0, 0, 2000, 1), 119880);
        Bounds.due("it rises at once", x.measure(0, 4, 12, 2), 0);
        Bounds.due("half of them are high", x.measure(0, 0, 2000, 3), 1000);
    }

    static void rises() {
        Bounds.sentence(23, "RISE: from the first TICK at which 10 (OUT - LOW) >= HIGH - LOW"
                + " to the first at which 10 (OUT - LOW) >= 9 (HIGH - LOW).");
        Bounds.due("just a tenth, just nine tenths", outs(1, 0, 10, 50, 90, 100).measure(0, 0, 9, 2), 2);
        Bounds.due("below a tenth", outs(1, 0, 9, 50, 90, 100).measure(0, 0, 9, 2), 1);
        Bounds.due("below nine tenths", outs(1, 0, 10, 50, 89, 100).measure(0, 0, 9, 2), 3);
        Bounds.due("just a tenth of what is below 0", outs(1, -60, -50, 0, 30, 40).measure(0, 0, 9, 2), 2);
        Bounds.due("a tenth of 1 is below 1", outs(1, 0, 0, 1, 1).measure(0, 0, 9, 2), 0);
        Bounds.due("a tenth of 99 is below 10", outs(1, 0, 10, 89, 99).measure(0, 0, 9, 2), 2);
        Bounds.due("nine tenths of 99 are above 89", outs(1, 0, 10, 90, 99).measure(0, 0, 9, 2), 1);
        Bounds.due("one out", outs(1, 7).measure(0, 0, 9, 2), 0);
        Bounds.due("one tick", outs(1, 7).measure(0, 0, 1, 2), 0);
        Bounds.due("high at first, so both are the first", outs(1, 100, 0, 50, 100).measure(0, 0, 9, 2), 0);
        Bounds.due("midway at first", outs(1, 50, 0, 50, 100).measure(0, 0, 9, 2), 3);
        Bounds.due("up, down and up", outs(1, 0, 50, 0, 100).measure(0, 0, 9, 2), 2);
        Bounds.due("up to the last tick", outs(1, 0, 10, 20, 30, 40, 100).measure(0, 1, 6, 2), 3);
    }

    static void wides() {
        Bounds.sentence(23, "WIDE: how many TICKS have 2 OUT >= LOW + HIGH.");
        Bounds.due("just half", outs(1, 0, 50, 100, 49, 0).measure(0, 0, 5, 3), 2);
        Bounds.due("half of an odd sum", outs(1, 0, 50, 101, 51, 0).measure(0, 0, 5, 3), 2);
        Bounds.due("below 0", outs(1, -100, -50, 0, -51, -100).measure(0, 0, 5, 3), 2);
        Bounds.due("half of an odd sum below 0", outs(1, -101, -50, 0, -51, -101).measure(0, 0, 5, 3), 2);
        Bounds.due("all are one", outs(1, 0).measure(0, 0, 2000, 3), 2000);
        Bounds.due("one tick", outs(1, -3).measure(0, 5, 6, 3), 1);
    }

    static void risesBySteps() {
        Bounds.sentence(23, "As the SCREEN lets RISE be: by TICKS a, a + PACE, .. below b alone"
                + " these two first ones are k PACE apart: at least (k - 1) PACE + 1 (0 at least),"
                + " at most (k + 1) PACE - 1;");
        int[][] due = {{1, 0, 0}, {2, 0, 1}, {50, 0, 49}};
        for (int[] d : due) {
            GreenLine x = outs(d[0], 100, 0);
            Bounds.due("k 0 by pace " + d[0] + " at least", x.measure(0, 0, 9, 4), d[1]);
            Bounds.due("k 0 by pace " + d[0] + " at most", x.measure(0, 0, 9, 5), d[2]);
        }
        GreenLine x = new GreenLine();
        x.part(0, 0, 50, 1, 0, 100);
        x.part(0, 0, 50, 1, 0, 150);
        // They are seen at 100 and 150; by 3 at 102 and 150; by 7 at 105 and 154; by 40 at 120 and 160.
        int[][] byPace = {{1, 50, 50}, {2, 49, 51}, {3, 46, 50}, {5, 46, 54}, {7, 43, 55}, {10, 41, 59}, {25, 26, 74},
            {40, 1, 79}, {50, 1, 99}};
        for (int[] d : byPace) {
            x.base(d[0], 0, 16);
            Bounds.due("by pace " + d[0] + " at least", x.measure(0, 0, 200, 4), d[1]);
            Bounds.due("by pace " + d[0] + " at most", x.measure(0, 0, 200, 5), d[2]);
        }
        x.base(50, 0, 16);
        Bounds.due("from 49: at 149 and 199, below 200", x.measure(0, 49, 200, 4), 1);
        Bounds.due("from 49: 199 is not below 199", x.measure(0, 49, 199, 4), NO_VALUE);
        Bounds.due("from 100: both at 150", x.measure(0, 100, 200, 5), 49);
    }

    static void noSuchFirst() {
        Bounds.sentence(23, "LOW, HIGH as they are; none, if there is no such first one.");
        GreenLine x = outs(2, 0, 100, 0);
        Bounds.due("between two ticks", x.measure(0, 0, 9, 4), NO_VALUE);
        Bounds.due("between two ticks", x.measure(0, 0, 9, 5), NO_VALUE);
        Bounds.due("by each tick there is", x.measure(0, 0, 9, 2), 0);
        Bounds.due("from 1 on it is seen", x.measure(0, 1, 9, 4), 0);
        x = outs(2, 0, 0, 50, 100, 0);
        Bounds.due("a foot without a shoulder", x.measure(0, 0, 9, 4), NO_VALUE);
        Bounds.due("a foot without a shoulder", x.measure(0, 0, 9, 5), NO_VALUE);
        x = outs(2, 0, 90, 90, 100, 0);
        Bounds.due("foot and shoulder at once, high is not seen", x.measure(0, 0, 9, 4), 0);
        Bounds.due("foot and shoulder at once, high is not seen", x.measure(0, 0, 9, 5), 1);
        x = outs(50, 0, 100);
        Bounds.due("just the first tick is seen", x.measure(0, 0, 50, 4), NO_VALUE);
        Bounds.due("the second is", x.measure(0, 0, 51, 4), 0);
    }

    static void measureAnswers() {
        Bounds.sentence(23, "MEASURES (0 <= a < b <= 2000): 0 LOW, 1 HIGH, 2 RISE, 3 WIDE,"
                + " 4, 5 what RISE can be as the SCREEN lets it. -1000000 for others, and if there is none.");
        GreenLine x = new GreenLine();
        x.part(0, 0, 4, 1, 0, 3);
        int[] due = {0, 4, 0, 1997, 0, 9};
        for (int what = 0; what < 6; what++) Bounds.due("what " + what, x.measure(0, 0, 2000, what), due[what]);
        for (int what = 0; what < 6; what++) {
            int w = what;
            Bounds.due("of one tick", x.measure(0, 0, 1, what), what == 3 ? 1 : what == 5 ? 9 : 0);
            Bounds.refuses("a of what " + w, (y, a) -> y.measure(0, a, 90, w), NO_VALUE, -1, 90, 91);
            Bounds.refuses("b of what " + w, (y, b) -> y.measure(0, 50, b, w), NO_VALUE, 49, 50, 2001);
            Bounds.refuses("channel of what " + w, (y, c) -> y.measure(c, 0, 90, w), NO_VALUE, -1, 2);
        }
        Bounds.refuses("a", (y, a) -> y.measure(0, a, 2000, 0), NO_VALUE, -1, 2000, Bounds.DEEP, Bounds.FAR);
        Bounds.refuses("b", (y, b) -> y.measure(0, 0, b, 0), NO_VALUE, 0, 2001, Bounds.DEEP, Bounds.FAR);
        Bounds.refuses("channel", (y, c) -> y.measure(c, 0, 90, 0), NO_VALUE, Bounds.DEEP, Bounds.FAR);
        Bounds.refuses("what", (y, what) -> y.measure(0, 0, 90, what), NO_VALUE, -1, 6, Bounds.DEEP, Bounds.FAR);
    }

    // ---- parting

    static void partings() {
        Bounds.sentence(24, "PARTING of SIGNALS s, u: the PACE 1 .. 20 by which, CHANNEL 0 having the one"
                + " and then the other, SWEPT up to T, most dots are LIT by 1 in just one of both;"
                + " of like ones the least.");
        GreenLine x = new GreenLine();
        x.part(0, 0, 50, 1, 0, 0);
        x.part(2, 0, 50, 1, 0, 380);
        x.part(3, 0, 50, 1, 0, 400);
        parting(x, 0, 1, 1, 1, 2);
        parting(x, 0, 1, 2, 1, 4);
        parting(x, 0, 1, 19, 1, 38);
        parting(x, 0, 1, 20, 1, 40);
        parting(x, 0, 1, 2000, 1, 40);
        parting(x, 1, 0, 2000, 1, 40);
        parting(x, 0, 0, 2000, 1, 0);
        parting(x, 3, 3, 1, 1, 0);
        parting(x, 2, 1, 380, 1, 0);
        x.base(1, 999, 0);
        parting(x, 0, 1, 999, 1, 0);
        parting(x, 0, 1, 1000, 1, 2);
        // By pace 20 the TICK 380 is the last column's; by faster ones a later sweep's, whose dot both have already.
        x.base(21, 0, 16);
        parting(x, 2, 1, 381, 20, 2);
        x.base(21, 0, 0);
        parting(x, 2, 1, 381, 1, 2);
        // By a PACE of 1 and FADE of 1 all 20 but the first have GLOW 1 at the second beginning.
        x.base(21, 0, 1);
        parting(x, 0, 1, 21, 1, 40);
        x = Bounds.told("begin sweeps=0;");
        x.part(2, 0, 50, 1, 0, 380);
        x.part(3, 0, 50, 1, 0, 399);
        parting(x, 2, 1, 2000, 20, 2);
        parting(x, 3, 1, 2000, 1, 0);
        x.mode(1, 1);
        x.channel(1, 2, 10, 0);
        parting(x, 2, 1, 2000, 20, 2);
        x.channel(0, 0, 10, -9);
        parting(x, 2, 1, 2000, 20, 1);
    }

    private static void parting(GreenLine x, int one, int other, int t, int pace, int dots) {
        int paceAhead = x.about(2);
        int signalAhead = x.about(10);
        String of = "of " + one + ", " + other + " up to " + t;
        Bounds.due("pace " + of, x.parting(one, other, t, 0), pace);
        Bounds.due("dots " + of, x.parting(one, other, t, 1), dots);
        Bounds.due("pace stays", x.about(2), paceAhead);
        Bounds.due("signal stays", x.about(10), signalAhead);
        for (int tick : new int[] {0, 1, 379, 380, 398, 399, 400}) {
            Bounds.due("out stays", x.out(0, tick), x.raw(signalAhead, tick));
        }
    }

    static void partingAnswers() {
        Bounds.sentence(24, "PARTING: 0 PACE, 1 how many dots. NONE for others.");
        GreenLine x = new GreenLine();
        for (int one = 0; one < 4; one++) {
            for (int other = 0; other < 4; other++) {
                Bounds.due("pace", x.parting(one, other, 2000, 0), 1);
                Bounds.due("dots", x.parting(one, other, 1, 1), 0);
            }
        }
        Bounds.refuses("one", (y, s) -> y.parting(s, 0, 90, 0), NONE, -1, 4, Bounds.DEEP, Bounds.FAR);
        Bounds.refuses("other", (y, s) -> y.parting(0, s, 90, 0), NONE, -1, 4, Bounds.DEEP, Bounds.FAR);
        Bounds.refuses("t", (y, t) -> y.parting(0, 1, t, 0), NONE, -1, 0, 2001, Bounds.DEEP, Bounds.FAR);
        Bounds.refuses("what", (y, what) -> y.parting(0, 1, 90, what), NONE, -1, 2, Bounds.DEEP, Bounds.FAR);
        Bounds.stays("asking is no change", y -> y.parting(3, 3, 90, 0), 1);
    }
}
