/** The bounds that the document names of sweeps, modes and glow. */
final class SweepBounds {

    private static final int NONE = Bounds.NONE;

    private SweepBounds() {
    }

    // ---- sweeps

    static void spans() {
        Bounds.sentence(15, "SWEPT up to T (1 .. 2000) by THE TEXT (told; at first none): READY is 0 at first.");
        GreenLine x = new GreenLine();
        Bounds.due("at first none", x.about(1), NONE);
        Bounds.due("up to 1", x.swept(1, NONE), 1);
        Bounds.due("it begins at 0", x.swept(1, 0), 0);
        Bounds.due("up to 2", x.swept(2, NONE), 1);
        Bounds.due("up to 1999", x.swept(1999, NONE), 10);
        Bounds.due("up to 2000", x.swept(2000, NONE), 10);
        x = Bounds.told("begin tick>=1999;");
        Bounds.due("at 1999 up to 2000", x.swept(2000, 0), 1999);
        Bounds.due("at 1999 up to 1999", x.swept(1999, NONE), 0);
        Bounds.refuses("swept up to", (y, t) -> y.swept(t, NONE), NONE, -1, 0, 2001, Bounds.DEEP, Bounds.FAR);
        Bounds.refuses("glow up to", (y, t) -> y.glow(t, 0, 8), NONE, -1, 0, 2001, Bounds.DEEP, Bounds.FAR);
        Bounds.refuses("lit up to", (y, t) -> y.lit(t, 1, NONE), NONE, -1, 0, 2001, Bounds.DEEP, Bounds.FAR);
    }

    static void triggers() {
        Bounds.sentence(15, "At each TICK t = READY, .. T - 1: it TRIGGERS, if a begin clause is so,"
                + " or there is none:");
        GreenLine x = Bounds.told("begin tick=99;");
        Bounds.due("at T", x.swept(99, NONE), 0);
        Bounds.due("at T - 1", x.swept(100, NONE), 1);
        x = Bounds.told("begin tick=5 or tick=24 or tick=25 or tick=26;");
        Bounds.due("ahead of ready is nothing", x.swept(2000, 1), 25);
        Bounds.due("just two", x.swept(2000, NONE), 2);
        x = Bounds.told("");
        Bounds.due("no clause", x.swept(21, NONE), 2);
        x = Bounds.told("hold 3;");
        Bounds.due("no begin clause", x.swept(23, NONE), 1);
        Bounds.due("no begin clause", x.swept(24, NONE), 2);
        Bounds.due("no clause is so", Bounds.told("begin 1=2;begin 1=3;").swept(2000, NONE), 0);
        Bounds.due("the last clause is so", Bounds.told("begin 1=2;begin 1=1;").swept(1, NONE), 1);
        Bounds.due("the first clause is so", Bounds.told("begin 1=1;begin 1=2;").swept(1, NONE), 1);
    }

    static void delays() {
        Bounds.sentence(15, "the sweep begins at t + DELAY (0 .. 999; at first 0);");
        GreenLine x = new GreenLine();
        Bounds.due("at first", x.about(3), 0);
        for (int delay : new int[] {0, 1, 998, 999}) {
            Bounds.due("delay " + delay, x.base(10, delay, 16), true);
            Bounds.due("it begins", x.swept(1, 0), delay);
            Bounds.due("then it is ready and begins", x.swept(delay + 201, 1), 2 * delay + 200);
            Bounds.due("not ahead", x.swept(delay + 200, 1), NONE);
        }
        Bounds.due("beyond 2000 too", x.swept(2000, 1), 2198);
        Bounds.due("no third", x.swept(2000, NONE), 2);
        x = Bounds.told("begin tick=1999;");
        x.base(1, 999, 16);
        Bounds.due("the latest there is", x.swept(2000, 0), 2998);
        Bounds.refuses("delay", (y, delay) -> Bounds.number(y.base(5, delay, 5)), 0,
                -1, 1000, Bounds.DEEP, Bounds.FAR);
    }

    static void paces() {
        Bounds.sentence(15, "READY is t + DELAY + 20 PACE (1 .. 50; at first 10)");
        GreenLine x = new GreenLine();
        Bounds.due("at first", x.about(2), 10);
        Bounds.due("at first the second", x.swept(201, 1), 200);
        Bounds.due("not ahead", x.swept(200, 1), NONE);
        for (int pace : new int[] {1, 2, 49, 50}) {
            Bounds.due("pace " + pace, x.base(pace, 0, 16), true);
            Bounds.due("the second", x.swept(20 * pace + 1, 1), 20 * pace);
            Bounds.due("not ahead", x.swept(20 * pace, 1), NONE);
        }
        x.base(1, 0, 16);
        Bounds.due("100 sweeps", x.swept(2000, NONE), 100);
        Bounds.due("the 100th", x.swept(2000, 99), 1980);
        Bounds.refuses("pace", (y, pace) -> Bounds.number(y.base(pace, 5, 5)), 0,
                -1, 0, 51, Bounds.DEEP, Bounds.FAR);
    }

    static void holds() {
        Bounds.sentence(15, "+ hold (asked at t; 0 at least, 9999 at most; without 0).");
        Bounds.due("without", Bounds.told("").swept(2000, 1), 20);
        Bounds.due("0", Bounds.told("hold 0;").swept(2000, 1), 20);
        Bounds.due("1", Bounds.told("hold 1;").swept(2000, 1), 21);
        Bounds.due("-1", Bounds.told("hold -1;").swept(2000, 1), 20);
        Bounds.due("-20", Bounds.told("hold -20;").swept(2000, 1), 20);
        Bounds.due("-1000000", Bounds.told("hold -9999*9999;").swept(2000, 1), 20);
        Bounds.due("1979", Bounds.told("hold 1979;").swept(2000, 1), 1999);
        Bounds.due("1980", Bounds.told("hold 1980;").swept(2000, 1), NONE);
        Bounds.due("9999", Bounds.told("hold 9999;").swept(2000, NONE), 1);
        Bounds.due("10000", Bounds.told("hold 9999+1;").swept(2000, NONE), 1);
        Bounds.due("1000000", Bounds.told("hold 9999*9999;").swept(2000, NONE), 1);
        GreenLine x = Bounds.told("begin tick=4 or tick>50;hold tick*10;");
        x.base(1, 6, 16);
        Bounds.due("asked at t, not at the beginning", x.swept(2000, 1), 4 + 6 + 20 + 40 + 6);
        int[] begins = {0, 20, 60, 140, 300, 620, 1260};
        for (int i = 0; i < begins.length; i++) {
            Bounds.due("asked at each t", Bounds.told("hold tick;").swept(2000, i), begins[i]);
        }
        Bounds.due("no 8th: 2540", Bounds.told("hold tick;").swept(2000, NONE), begins.length);
    }

    static void columnsBelowT() {
        Bounds.sentence(17, "COLUMN c is drawn at the TICK that is c PACE behind the beginning, if that is below T.");
        GreenLine x = new GreenLine();
        x.base(50, 0, 16);
        for (int column = 0; column < 20; column++) {
            int tick = 50 * column;
            if (tick > 0) Bounds.due("column " + column + " at T", x.lit(tick, 1, column), 0);
            Bounds.due("column " + column + " below T", x.lit(tick + 1, 1, column), 1 << 8);
            Bounds.due("so many", x.lit(tick + 1, 1, NONE), column + 1);
        }
        x.base(1, 999, 16);
        Bounds.due("a beginning at T", x.lit(999, 1, NONE), 0);
        Bounds.due("a beginning below T", x.lit(1000, 1, NONE), 1);
        Bounds.due("the last column at T", x.lit(1018, 1, NONE), 19);
        Bounds.due("the last column below T", x.lit(1019, 1, NONE), 20);
        x = Bounds.told("begin tick=1990;");
        Bounds.due("ten columns up to 2000", x.lit(2000, 1, NONE), 10);
        Bounds.due("the tenth", x.lit(2000, 1, 9), 1 << 8);
        Bounds.due("no 11th", x.lit(2000, 1, 10), 0);
    }

    static void baseAnswers() {
        Bounds.sentence(8, "PACE, DELAY, FADE: true. False, changing nothing, for others.");
        GreenLine x = new GreenLine();
        Bounds.due("the least", x.base(1, 0, 0), true);
        Bounds.due("they are", x.about(2) == 1 && x.about(3) == 0 && x.about(4) == 0, true);
        Bounds.due("the greatest", x.base(50, 999, 16), true);
        Bounds.due("they are", x.about(2) == 50 && x.about(3) == 999 && x.about(4) == 16, true);
        Bounds.stays("just the pace is wrong", y -> Bounds.number(y.base(51, 7, 7)), 0);
        Bounds.stays("just the delay is wrong", y -> Bounds.number(y.base(7, 1000, 7)), 0);
        Bounds.stays("just the fade is wrong", y -> Bounds.number(y.base(7, 7, 17)), 0);
        Bounds.stays("all is wrong", y -> Bounds.number(y.base(0, -1, -1)), 0);
    }

    static void sweptAnswers() {
        Bounds.sentence(15, "SWEPT up to T: how many TRIGGERED (i NONE), the TICK at which the i-th sweep begins."
                + " NONE if there is none such, and for others.");
        GreenLine x = new GreenLine();
        x.base(1, 0, 16);
        Bounds.due("how many", x.swept(41, NONE), 3);
        Bounds.due("the 0th", x.swept(41, 0), 0);
        Bounds.due("the last", x.swept(41, 2), 40);
        Bounds.due("none such", x.swept(41, 3), NONE);
        Bounds.due("far", x.swept(41, Bounds.FAR), NONE);
        x = Bounds.told("begin 1=2;");
        Bounds.due("none triggered", x.swept(2000, NONE), 0);
        Bounds.due("no 0th", x.swept(2000, 0), NONE);
        Bounds.refuses("i", (y, i) -> y.swept(150, i), NONE, -2, 2000, Bounds.DEEP, Bounds.FAR);
    }

    // ---- modes

    /** CHANNEL 0's dots in row 6, CHANNEL 1's in row 11, at each TICK. */
    private static GreenLine twoLines(int mode, int chop) {
        GreenLine x = new GreenLine();
        x.base(1, 0, 16);
        x.channel(0, 0, 10, -2);
        x.channel(1, 1, 10, 3);
        Bounds.due("mode " + mode + ", chop " + chop, x.mode(mode, chop), true);
        return x;
    }

    static void modeZero() {
        Bounds.sentence(9, "MODES: 0 (at first): CHANNEL 0.");
        Bounds.due("at first", new GreenLine().about(5), 0);
        GreenLine x = twoLines(0, 1);
        for (int column = 0; column < 20; column++) Bounds.due("column", x.lit(60, 1, column), 1 << 6);
        for (int mode = 0; mode <= 3; mode++) {
            Bounds.due("mode " + mode, x.mode(mode, 9), true);
            Bounds.due("it is", x.about(5), mode);
        }
        Bounds.refuses("mode", (y, mode) -> Bounds.number(y.mode(mode, 9)), 0, -1, 4, Bounds.DEEP, Bounds.FAR);
    }

    static void alternate() {
        Bounds.sentence(16, "1 ALTERNATE: of sweeps 0, 1, 2, .. by turns CHANNEL 0, 1.");
        GreenLine x = twoLines(1, 1);
        int[][] due = {{20, 16, 0}, {40, 16, 16}, {60, 32, 16}, {80, 32, 32}, {100, 48, 32}};
        for (int[] d : due) {
            Bounds.due("channel 0 up to " + d[0], x.glow(d[0], 19, 6), d[1]);
            Bounds.due("channel 1 up to " + d[0], x.glow(d[0], 19, 11), d[2]);
        }
        x.base(1, 0, 0);
        Bounds.due("sweep 0", x.lit(20, 1, 0), 1 << 6);
        Bounds.due("sweep 1 alone", x.lit(40, 1, 0), 1 << 11);
        Bounds.due("sweep 99 alone", x.lit(2000, 1, 0), 1 << 11);
    }

    static void chopped() {
        Bounds.sentence(9, "2 CHOPPED: CHANNEL (TICK / CHOP) mod 2 (CHOP 1 .. 50; at first 1).");
        Bounds.due("at first", new GreenLine().about(6), 1);
        int[][] due = {{1, 0, 0}, {1, 1, 1}, {1, 2, 0}, {2, 1, 0}, {2, 2, 1}, {2, 3, 1}, {2, 4, 0}, {49, 48, 0},
            {49, 49, 1}, {49, 97, 1}, {49, 98, 0}, {50, 49, 0}, {50, 50, 1}, {50, 99, 1}, {50, 100, 0}, {50, 1999, 1},
            {1, 1999, 1}, {2, 1999, 1}, {50, 1949, 0}, {50, 1950, 1}};
        for (int[] d : due) {
            GreenLine x = Bounds.told("begin tick=" + d[1] + ";");
            x.channel(0, 0, 10, -2);
            x.channel(1, 1, 10, 3);
            Bounds.due("chop " + d[0], x.mode(2, d[0]), true);
            Bounds.due("chop " + d[0] + " at " + d[1], x.lit(d[1] + 1, 1, 0), d[2] == 0 ? 1 << 6 : 1 << 11);
        }
        Bounds.refuses("chop", (y, chop) -> Bounds.number(y.mode(2, chop)), 0, -1, 0, 51, Bounds.DEEP, Bounds.FAR);
    }

    static void dotOfChannel() {
        Bounds.sentence(17, "These draw the dot at that COLUMN and the CHANNEL's ROW.");
        GreenLine x = twoLines(2, 10);
        Bounds.due("the last tick of channel 0", x.lit(20, 1, 9), 1 << 6);
        Bounds.due("the first of channel 1", x.lit(20, 1, 10), 1 << 11);
        Bounds.due("the last column", x.lit(20, 1, 19), 1 << 11);
        x.channel(1, 1, 10, 8);
        Bounds.due("no row of channel 1", x.lit(20, 1, NONE), 10);
        x.channel(0, 0, 10, -9);
        Bounds.due("no row of either", x.lit(20, 1, NONE), 0);
    }

    private static void against(int zero, int positionZero, int one, int positionOne, int column, int row) {
        GreenLine x = new GreenLine();
        Bounds.step(x, 0, zero, 0);
        Bounds.step(x, 1, one, 0);
        x.channel(0, 0, 10, positionZero);
        x.channel(1, 1, 10, positionOne);
        x.mode(3, 1);
        String of = "of " + zero + ", " + positionZero + " against " + one + ", " + positionOne;
        Bounds.due("dots " + of, x.lit(200, 1, NONE), column == NONE ? 0 : 1);
        if (column != NONE) Bounds.due("glow " + of, x.glow(1, column, row), 16);
    }

    static void against() {
        Bounds.sentence(17, "3 AGAINST: the dot at the COLUMN that is OUT / GAIN of CHANNEL 0, cut downwards,"
                + " + 10 + its POSITION, and CHANNEL 1's ROW (none, if either isn't one).");
        against(0, 0, 0, 0, 10, 8);
        against(-1, 0, 0, 0, 9, 8);
        against(-100, 0, 0, 0, 0, 8);
        against(-101, 0, 0, 0, NONE, NONE);
        against(99, 0, 0, 0, 19, 8);
        against(100, 0, 0, 0, NONE, NONE);
        against(0, -10, 0, 0, 0, 8);
        against(0, -11, 0, 0, NONE, NONE);
        against(0, 9, 0, 0, 19, 8);
        against(0, 10, 0, 0, NONE, NONE);
        against(-250, 15, 0, 0, 0, 8);
        against(-251, 15, 0, 0, NONE, NONE);
        against(249, -15, 0, 0, 19, 8);
        against(250, -15, 0, 0, NONE, NONE);
        against(0, 0, -1, 0, 10, 7);
        against(0, 0, -80, 0, 10, 0);
        against(0, 0, -81, 0, NONE, NONE);
        against(0, 0, 79, 0, 10, 15);
        against(0, 0, 80, 0, NONE, NONE);
        against(0, 0, 0, 7, 10, 15);
        against(0, 0, 0, 8, NONE, NONE);
        against(0, 0, 0, -8, 10, 0);
        against(0, 0, 0, -9, NONE, NONE);
        against(99, 0, 79, 0, 19, 15);
        against(-100, 0, -80, 0, 0, 0);
        against(100, 0, 80, 0, NONE, NONE);
    }

    static void modeAnswers() {
        Bounds.sentence(9, "MODE, CHOP: true. False, changing nothing, for others.");
        GreenLine x = new GreenLine();
        Bounds.due("the greatest", x.mode(3, 50), true);
        Bounds.due("they are", x.about(5) == 3 && x.about(6) == 50, true);
        Bounds.due("the least", x.mode(0, 1), true);
        Bounds.due("they are", x.about(5) == 0 && x.about(6) == 1, true);
        Bounds.stays("just the mode is wrong", y -> Bounds.number(y.mode(4, 7)), 0);
        Bounds.stays("just the chop is wrong, of a mode that has none", y -> Bounds.number(y.mode(0, 0)), 0);
        Bounds.stays("both are wrong", y -> Bounds.number(y.mode(-1, 51)), 0);
    }

    // ---- glow

    /** The GLOW of the first column's dot behind each sweep. */
    private static void glows(int fade, int... due) {
        GreenLine x = new GreenLine();
        Bounds.due("fade " + fade, x.base(1, 0, fade), true);
        for (int k = 0; k < due.length; k++) {
            Bounds.due("glow by fade " + fade + " behind sweep " + k, x.glow(20 * k + 1, 0, 8), due[k]);
        }
    }

    static void fades() {
        Bounds.sentence(16, "GLOW of dots: 0 at first; as a sweep begins, if that is below T (ahead of its dots),"
                + " each is GLOW * FADE / 16, cut (FADE 0 .. 16; at first 16);");
        Bounds.due("at first", new GreenLine().about(4), 16);
        Bounds.due("0 at first", new GreenLine().glow(2000, 0, 9), 0);
        for (int row = 0; row < 16; row++) {
            GreenLine anew = Bounds.flat(0, 10, row - 8);
            Bounds.due("a dot", anew.glow(1, 0, row), 16);
            Bounds.due("0 at first in each call", anew.glow(1, 0, row), 16);
            anew.base(1, 1, 16);
            Bounds.due("0 at first in each call", anew.glow(1, 0, row), 0);
            anew.base(1, 0, 8);
            for (int column = 0; column < 20; column++) {
                Bounds.due("each dot fades", anew.glow(21, column, row), column == 0 ? 24 : 8);
            }
        }
        glows(16, 16, 32, 48, 64);
        glows(15, 16, 31, 45, 58);
        glows(8, 16, 24, 28, 30, 31, 31);
        glows(1, 16, 17, 17, 17);
        glows(0, 16, 16, 16);
        GreenLine x = new GreenLine();
        x.base(1, 7, 0);
        Bounds.due("a beginning at T: READY 27, begins 34", x.glow(34, 1, 8), 16);
        Bounds.due("a beginning below T", x.glow(35, 1, 8), 0);
        Bounds.due("ahead of its dots", x.glow(35, 0, 8), 16);
        x.base(1, 0, 1);
        Bounds.due("faded once", x.glow(21, 1, 8), 1);
        Bounds.due("17 faded too", x.glow(61, 1, 8), 1);
        x = Bounds.told("begin sweeps=0 or tick>=100;");
        x.base(1, 0, 1);
        Bounds.step(x, 0, 10, 50);
        Bounds.due("one sweep", x.glow(100, 0, 8), 16);
        Bounds.due("it fades to 1", x.glow(101, 0, 8), 1);
        Bounds.due("and to 0", x.glow(121, 0, 8), 0);
        Bounds.refuses("fade", (y, fade) -> Bounds.number(y.base(5, 5, fade)), 0, -1, 17, Bounds.DEEP, Bounds.FAR);
    }

    static void drawnDots() {
        Bounds.sentence(16, "a dot drawn is 16 more (999 at most).");
        GreenLine x = new GreenLine();
        x.base(1, 0, 16);
        x.mode(3, 1);
        int[][] due = {{1, 16}, {2, 32}, {61, 976}, {62, 992}, {63, 999}, {64, 999}, {2000, 999}};
        for (int[] d : due) Bounds.due("glow of " + d[0] + " dots", x.glow(d[0], 10, 8), d[1]);
        x.base(1, 0, 15);
        // 320; 300 and 320; 581 and 320; 844 and 16 for each dot, until it would be 1004; 936 and 16.
        Bounds.due("20 dots", x.glow(20, 10, 8), 320);
        Bounds.due("40 dots", x.glow(40, 10, 8), 620);
        Bounds.due("60 dots", x.glow(60, 10, 8), 901);
        Bounds.due("the 61st", x.glow(61, 10, 8), 860);
        Bounds.due("the 69th", x.glow(69, 10, 8), 988);
        Bounds.due("the 70th", x.glow(70, 10, 8), 999);
        Bounds.due("the 80th", x.glow(80, 10, 8), 999);
        Bounds.due("the 81st", x.glow(81, 10, 8), 952);
    }

    static void litByN() {
        Bounds.sentence(17, "LIT by n: GLOW n or more.");
        GreenLine x = new GreenLine();
        Bounds.due("16 by 15", x.lit(1, 15, 0), 1 << 8);
        Bounds.due("16 by 16", x.lit(1, 16, 0), 1 << 8);
        Bounds.due("16 by 17", x.lit(1, 17, 0), 0);
        x.base(1, 0, 16);
        x.mode(3, 1);
        Bounds.due("992 by 992", x.lit(62, 992, 10), 1 << 8);
        Bounds.due("992 by 993", x.lit(62, 993, 10), 0);
        Bounds.due("999 by 999", x.lit(63, 999, 10), 1 << 8);
        x.mode(0, 1);
        x.base(1, 0, 1);
        Bounds.due("17 and 1 by 1", x.lit(21, 1, NONE), 20);
        Bounds.due("17 and 1 by 2", x.lit(21, 2, NONE), 1);
    }

    static void glowAnswers() {
        Bounds.sentence(16, "GLOW of a dot, SWEPT up to T. NONE for others.");
        GreenLine x = Bounds.flat(0, 10, -8);
        Bounds.due("the first dot", x.glow(1, 0, 0), 16);
        Bounds.due("the first dot's neighbour", x.glow(1, 0, 1), 0);
        x = Bounds.flat(0, 10, 7);
        Bounds.due("the last dot", x.glow(2000, 19, 15), 160);
        Bounds.stays("all is wrong", y -> y.glow(0, -1, 16), NONE);
        Bounds.stays("column and row are changed", y -> y.glow(150, 8, 19), NONE);
    }

    static void litAnswers() {
        Bounds.sentence(17, "ROWS of a COLUMN that are LIT by n (1 .. 999), as bits, SWEPT up to T;"
                + " column NONE: how many dots are. NONE for others.");
        Bounds.due("row 0", Bounds.flat(0, 10, -8).lit(1, 1, 0), 1);
        Bounds.due("row 15", Bounds.flat(0, 10, 7).lit(1, 1, 0), 32768);
        Bounds.due("the last column", Bounds.flat(0, 10, 0).lit(191, 1, 19), 256);
        GreenLine x = new GreenLine();
        x.part(0, 2, 80, 16, 0, 0);
        x.channel(0, 0, 5, -8);
        x.base(1, 0, 16);
        // Column c of sweep s is in row (4 s + c) mod 16.
        Bounds.due("four rows of a column", x.lit(80, 1, 0), (1 << 0) + (1 << 4) + (1 << 8) + (1 << 12));
        Bounds.due("the last column's", x.lit(80, 1, 19), (1 << 3) + (1 << 7) + (1 << 11) + (1 << 15));
        Bounds.due("dots", x.lit(80, 1, NONE), 80);
        Bounds.due("the greatest n", x.lit(80, 999, NONE), 0);
        Bounds.due("none of a column", x.lit(80, 999, 0), 0);
        Bounds.refuses("n", (y, n) -> y.lit(150, n, NONE), NONE, -1, 0, 1000, Bounds.DEEP, Bounds.FAR);
        Bounds.refuses("n of a column", (y, n) -> y.lit(150, n, 0), NONE, 0, 1000);
        Bounds.refuses("column", (y, column) -> y.lit(150, 1, column), NONE, -2, 20, Bounds.DEEP, Bounds.FAR);
    }
}
