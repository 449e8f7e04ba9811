/** The bounds that the document names of signals, probes, channels and the screen. */
final class SignalBounds {

    private SignalBounds() {
    }

    // ---- signals and parts

    static void numbersOfSignals() {
        Bounds.sentence(2, "SIGNALS 0 .. 3");
        for (int signal = 0; signal < 4; signal++) {
            GreenLine x = new GreenLine();
            Bounds.due("part of " + signal, x.part(signal, 0, 7, 1, 0, 0), 1);
            for (int other = 0; other < 4; other++) {
                Bounds.due("raw of " + other, x.raw(other, 0), other == signal ? 7 : 0);
                Bounds.due("parts of " + other, x.about(20 + other), other == signal ? 1 : 0);
            }
        }
        Bounds.refuses("part of a signal", (x, s) -> x.part(s, 0, 7, 1, 0, 0), Bounds.NONE,
                -1, 4, Bounds.DEEP, Bounds.FAR);
    }

    static void sixPartsEach() {
        Bounds.sentence(2, "of PARTS (6 at most each)");
        GreenLine x = new GreenLine();
        for (int signal = 0; signal < 4; signal++) {
            for (int k = 1; k <= 6; k++) {
                Bounds.due("part " + k, x.part(signal, 0, k, 1, 0, 0), k);
                Bounds.due("parts", x.about(20 + signal), k);
            }
            Bounds.due("the 7th", x.part(signal, 0, 100, 1, 0, 0), Bounds.NONE);
            Bounds.due("the 8th", x.part(signal, 0, 100, 1, 0, 0), Bounds.NONE);
            Bounds.due("parts stay", x.about(20 + signal), 6);
            Bounds.due("the sum of six", x.raw(signal, 0), 21);
        }
        Bounds.due("out of six", x.out(0, 5), 21);
        x.clear(2);
        for (int k = 1; k <= 6; k++) Bounds.due("anew part " + k, x.part(2, 0, k, 1, 0, 0), k);
        Bounds.due("anew the 7th", x.part(2, 0, 100, 1, 0, 0), Bounds.NONE);
    }

    static void kinds() {
        Bounds.sentence(2, "(6 at most each): KIND,");
        int[] at7 = {9, 0, 6};
        for (int kind = 0; kind < 3; kind++) {
            GreenLine x = new GreenLine();
            Bounds.due("kind " + kind, x.part(0, kind, 9, 10, 3, 0), 1);
            Bounds.due("it is that kind", x.raw(0, 7), at7[kind]);
        }
        Bounds.refuses("a kind", (x, kind) -> x.part(1, kind, 9, 10, 3, 0), Bounds.NONE,
                -1, 3, Bounds.DEEP, Bounds.FAR);
    }

    static void heights() {
        Bounds.sentence(2, "HEIGHT h (-999 .. 999)");
        for (int height : new int[] {-999, -998, -1, 0, 1, 998, 999}) {
            GreenLine x = new GreenLine();
            Bounds.due("height " + height, x.part(0, 0, height, 1, 0, 0), 1);
            Bounds.due("raw by height " + height, x.raw(0, 0), height);
        }
        for (int kind = 0; kind < 3; kind++) {
            int k = kind;
            Bounds.refuses("a height of kind " + k, (x, h) -> x.part(1, k, h, 10, 3, 0), Bounds.NONE, -1000, 1000);
        }
        Bounds.refuses("a height", (x, h) -> x.part(1, 0, h, 10, 3, 0), Bounds.NONE, Bounds.DEEP, Bounds.FAR);
    }

    static void periods() {
        Bounds.sentence(2, "PERIOD p (1 .. 500)");
        for (int kind = 0; kind < 3; kind++) {
            int k = kind;
            Bounds.takes("a period of kind " + k, (x, p) -> x.part(0, k, 9, p, 3, 0), 1, 1, 2, 499, 500);
            Bounds.refuses("a period of kind " + k, (x, p) -> x.part(1, k, 9, p, 3, 0), Bounds.NONE, -1, 0, 501);
        }
        Bounds.refuses("a period", (x, p) -> x.part(1, 1, 9, p, 3, 0), Bounds.NONE, Bounds.DEEP, Bounds.FAR);
        GreenLine x = new GreenLine();
        x.part(0, 1, 9, 500, 1, 0);
        Bounds.due("500 of 500", x.raw(0, 500), 9);
        Bounds.due("499 of 500", x.raw(0, 499), 0);
        Bounds.due("501 of 500", x.raw(0, 501), 0);
        x.part(1, 1, 9, 1, 1, 0);
        for (int tick = 0; tick < 3; tick++) Bounds.due("period 1", x.raw(1, tick), 9);
    }

    static void widths() {
        Bounds.sentence(2, "WIDTH w (0 .. 500)");
        for (int kind = 0; kind < 3; kind++) {
            int k = kind;
            Bounds.takes("a width of kind " + k, (x, w) -> x.part(0, k, 9, 10, w, 0), 1, 0, 1, 10, 11, 499, 500);
            Bounds.refuses("a width of kind " + k, (x, w) -> x.part(1, k, 9, 10, w, 0), Bounds.NONE, -1, 501);
        }
        Bounds.refuses("a width", (x, w) -> x.part(1, 1, 9, 10, w, 0), Bounds.NONE, Bounds.DEEP, Bounds.FAR);
    }

    static void froms() {
        Bounds.sentence(2, "FROM a (0 .. 1999)");
        for (int kind = 0; kind < 3; kind++) {
            int k = kind;
            Bounds.takes("a from of kind " + k, (x, f) -> x.part(0, k, 9, 10, 3, f), 1, 0, 1, 10, 1998, 1999);
            Bounds.refuses("a from of kind " + k, (x, f) -> x.part(1, k, 9, 10, 3, f), Bounds.NONE, -1, 2000);
        }
        Bounds.refuses("a from", (x, f) -> x.part(1, 0, 9, 10, 3, f), Bounds.NONE, Bounds.DEEP, Bounds.FAR);
    }

    /** A saw as high as its period shows the PHASE itself. */
    private static void phases(int period, int from, int[][] ticksAndPhases) {
        GreenLine x = new GreenLine();
        x.part(0, 2, period, period, 0, from);
        for (int[] row : ticksAndPhases) {
            Bounds.due("phase of " + row[0] + " by " + period + " from " + from, x.raw(0, row[0]), row[1]);
        }
    }

    static void phaseGoesRound() {
        Bounds.sentence(4, "PHASE of a TICK t: what is left of t - a by p (0 .. p - 1).");
        phases(500, 0, new int[][] {{0, 0}, {1, 1}, {499, 499}, {500, 0}, {501, 1}, {9999, 499}});
        phases(500, 1999, new int[][] {{0, 1}, {498, 499}, {499, 0}, {1498, 499}, {1998, 499}, {1999, 0}, {2000, 1},
            {2498, 499}, {2499, 0}, {9998, 499}, {9999, 0}});
        phases(7, 3, new int[][] {{0, 4}, {1, 5}, {2, 6}, {3, 0}, {4, 1}, {9, 6}, {10, 0}});
        phases(7, 10, new int[][] {{0, 4}, {2, 6}, {3, 0}, {9, 6}, {10, 0}});
        phases(2, 1, new int[][] {{0, 1}, {1, 0}, {2, 1}});
        phases(1, 0, new int[][] {{0, 0}, {1, 0}, {9999, 0}});
        phases(1, 1999, new int[][] {{0, 0}, {1998, 0}, {1999, 0}, {2000, 0}});
    }

    static void steps() {
        Bounds.sentence(4, "A PART is at t: 0 STEP: h from a on (0 ahead of it);");
        int[][] due = {{0, 0, 9}, {0, 9999, 9}, {1, 0, 0}, {1, 1, 9}, {1999, 0, 0}, {1999, 1998, 0}, {1999, 1999, 9},
            {1999, 2000, 9}, {1999, 9999, 9}};
        for (int[] d : due) {
            GreenLine x = new GreenLine();
            x.part(0, 0, 9, 3, 1, d[0]);
            Bounds.due("a step from " + d[0] + " at " + d[1], x.raw(0, d[1]), d[2]);
            x.part(1, 0, -9, 500, 500, d[0]);
            Bounds.due("a step down from " + d[0] + " at " + d[1], x.raw(1, d[1]), -d[2]);
        }
    }

    static void squares() {
        Bounds.sentence(4, "1 SQUARE: h if its PHASE is below w, else 0;");
        int[][] due = {{10, 3, 0, 2, 9}, {10, 3, 0, 3, 0}, {10, 3, 0, 9, 0}, {10, 3, 0, 10, 9}, {10, 9, 0, 8, 9},
            {10, 9, 0, 9, 0}, {10, 1, 0, 0, 9}, {10, 1, 0, 1, 0}, {500, 499, 0, 498, 9}, {500, 499, 0, 499, 0},
            {500, 500, 0, 499, 9}, {10, 3, 1999, 1998, 0}, {10, 3, 1999, 1999, 9}, {10, 3, 1999, 2001, 9},
            {10, 3, 1999, 2002, 0}, {10, 3, 1999, 0, 9}, {10, 3, 1999, 1, 9}, {10, 3, 1999, 2, 0}};
        for (int[] d : due) {
            GreenLine x = new GreenLine();
            x.part(0, 1, 9, d[0], d[1], d[2]);
            Bounds.due("a square of " + d[0] + ", " + d[1] + ", " + d[2] + " at " + d[3], x.raw(0, d[3]), d[4]);
        }
        GreenLine x = new GreenLine();
        x.part(0, 1, 9, 10, 0, 4);
        x.part(1, 1, 9, 10, 10, 4);
        x.part(2, 1, 9, 10, 500, 4);
        x.part(3, 1, -9, 1, 1, 1999);
        for (int tick = 0; tick < 12; tick++) {
            Bounds.due("of no width at " + tick, x.raw(0, tick), 0);
            Bounds.due("as wide as the period at " + tick, x.raw(1, tick), 9);
            Bounds.due("wider than the period at " + tick, x.raw(2, tick), 9);
            Bounds.due("of period 1 at " + tick, x.raw(3, tick), -9);
        }
    }

    static void saws() {
        Bounds.sentence(4, "2 SAW: h * PHASE / p, cut towards 0.");
        int[][] due = {{999, 500, 499, 997}, {-999, 500, 499, -997}, {1, 500, 499, 0}, {-1, 500, 499, 0},
            {2, 500, 249, 0}, {2, 500, 250, 1}, {-2, 500, 249, 0}, {-2, 500, 250, -1}, {999, 1, 0, 0}, {999, 1, 5, 0},
            {999, 2, 0, 0}, {999, 2, 1, 499}, {-999, 2, 1, -499}, {0, 500, 499, 0}, {7, 3, 1, 2}, {7, 3, 2, 4},
            {-7, 3, 1, -2}, {-7, 3, 2, -4}, {-7, 3, 3, 0}};
        for (int[] d : due) {
            GreenLine x = new GreenLine();
            x.part(0, 2, d[0], d[1], 0, 0);
            Bounds.due("a saw of " + d[0] + " by " + d[1] + " at " + d[2], x.raw(0, d[2]), d[3]);
        }
    }

    static void partsTogether() {
        Bounds.sentence(4, "RAW of a SIGNAL: its PARTS together.");
        GreenLine x = new GreenLine();
        Bounds.due("no parts", x.raw(0, 0), 0);
        Bounds.due("no parts", x.raw(3, 9999), 0);
        for (int k = 0; k < 6; k++) x.part(0, 0, 999, 1, 0, 0);
        Bounds.due("six of 999", x.raw(0, 9999), 5994);
        for (int k = 0; k < 6; k++) x.part(1, 0, -999, 1, 0, 0);
        Bounds.due("six of -999", x.raw(1, 0), -5994);
        for (int k = 0; k < 6; k++) x.part(2, 0, k % 2 == 0 ? 999 : -999, 1, 0, 0);
        Bounds.due("three of each", x.raw(2, 0), 0);
        x.part(3, 2, 1, 2, 0, 0);
        x.part(3, 2, 1, 2, 0, 0);
        Bounds.due("each is cut by itself", x.raw(3, 1), 0);
        x.part(3, 2, -3, 2, 0, 0);
        Bounds.due("and then put together", x.raw(3, 1), -1);
    }

    static void partAnswers() {
        Bounds.sentence(2, "A PART of a SIGNAL: how many it has. NONE for others, or if there are 6.");
        GreenLine x = new GreenLine();
        for (int k = 1; k <= 6; k++) Bounds.due("part " + k, x.part(1, 1, 10, 4, 2, 0), k);
        Bounds.due("if there are 6", x.part(1, 1, 10, 4, 2, 0), Bounds.NONE);
        Bounds.due("if there are 6, and for others", x.part(1, 3, 10, 4, 2, 0), Bounds.NONE);
        Bounds.due("raw", x.raw(1, 1), 60);
        Bounds.stays("a wrong signal, and all else is sound", y -> y.part(4, 0, 1, 1, 0, 0), Bounds.NONE);
        Bounds.stays("all is wrong", y -> y.part(-1, 3, 1000, 0, 501, 2000), Bounds.NONE);
        Bounds.stays("all is far", y -> y.part(Bounds.FAR, Bounds.FAR, Bounds.FAR, Bounds.FAR, Bounds.FAR, Bounds.FAR),
                Bounds.NONE);
    }

    static void clearAnswers() {
        Bounds.sentence(3, "A SIGNAL has no PARTS: how many it had. NONE for others.");
        for (int had = 0; had <= 6; had++) {
            for (int signal = 0; signal < 4; signal++) {
                GreenLine x = new GreenLine();
                for (int other = 0; other < 4; other++) x.part(other, 0, 50, 1, 0, 0);
                x.clear(signal);
                for (int k = 0; k < had; k++) x.part(signal, 0, 5, 1, 0, 0);
                Bounds.due("out ahead of it", x.out(0, 3), signal == 0 ? 5 * had : 50);
                Bounds.due("clear with " + had, x.clear(signal), had);
                Bounds.due("out behind it", x.out(0, 3), signal == 0 ? 0 : 50);
                Bounds.due("then", x.about(20 + signal), 0);
                for (int other = 0; other < 4; other++) {
                    Bounds.due("raw of " + other, x.raw(other, 0), other == signal ? 0 : 50);
                }
                Bounds.due("clear of none", x.clear(signal), 0);
            }
        }
        Bounds.refuses("clear", (x, signal) -> x.clear(signal), Bounds.NONE, -1, 4, Bounds.DEEP, Bounds.FAR);
    }

    static void rawAnswers() {
        Bounds.sentence(4, "RAW at a TICK (0 .. 9999). -1000000 for others.");
        GreenLine x = new GreenLine();
        x.part(3, 0, 8, 1, 0, 0);
        for (int tick : new int[] {0, 1, 1999, 2000, 9998, 9999}) Bounds.due("raw at " + tick, x.raw(3, tick), 8);
        Bounds.refuses("raw at", (y, tick) -> y.raw(3, tick), Bounds.NO_VALUE, -1, 10000, Bounds.DEEP, Bounds.FAR);
        Bounds.refuses("raw of", (y, signal) -> y.raw(signal, 0), Bounds.NO_VALUE, -1, 4, Bounds.DEEP, Bounds.FAR);
    }

    // ---- probes and channels

    static void channelsAtFirst() {
        Bounds.sentence(6, "CHANNELS 0, 1: a SIGNAL (at first 0, 1)");
        GreenLine x = new GreenLine();
        x.part(0, 0, 6, 1, 0, 0);
        x.part(1, 0, 9, 1, 0, 0);
        Bounds.due("channel 0's signal", x.about(10), 0);
        Bounds.due("channel 1's signal", x.about(11), 1);
        Bounds.due("channel 0 has signal 0", x.out(0, 0), 6);
        Bounds.due("channel 1 has signal 1", x.out(1, 0), 9);
        for (int signal = 0; signal < 4; signal++) {
            Bounds.due("channel 0 takes it", x.channel(0, signal, 10, 0), true);
            Bounds.due("channel 1 takes it", x.channel(1, signal, 10, 0), true);
            Bounds.due("it has it", x.about(11), signal);
        }
        Bounds.refuses("channel", (y, c) -> Bounds.number(y.channel(c, 0, 10, 0)), 0, -1, 2, Bounds.DEEP, Bounds.FAR);
        Bounds.refuses("signal", (y, s) -> Bounds.number(y.channel(1, s, 10, 0)), 0, -1, 4, Bounds.DEEP, Bounds.FAR);
    }

    static void upAndDown() {
        Bounds.sentence(5, "a PROBE: UP, DOWN (1 .. 20; 1),");
        GreenLine x = new GreenLine();
        x.part(0, 0, 40, 1, 0, 0);
        Bounds.due("at first up and down are 1", x.out(0, 0), 40);
        int[][] due = {{1, 1, 40}, {1, 20, 2}, {20, 1, 800}, {20, 20, 40}, {19, 20, 38}, {20, 19, 42}, {2, 1, 80}};
        for (int[] d : due) {
            Bounds.due("up " + d[0] + ", down " + d[1], x.probe(0, d[0], d[1], 16), true);
            Bounds.due("out by up " + d[0] + ", down " + d[1], x.out(0, 0), d[2]);
        }
        for (int channel = 0; channel < 2; channel++) {
            int c = channel;
            Bounds.refuses("up", (y, up) -> Bounds.number(y.probe(c, up, 1, 16)), 0,
                    -1, 0, 21, Bounds.DEEP, Bounds.FAR);
            Bounds.refuses("down", (y, down) -> Bounds.number(y.probe(c, 1, down, 16)), 0,
                    -1, 0, 21, Bounds.DEEP, Bounds.FAR);
        }
    }

    static void slow() {
        Bounds.sentence(5, "SLOW (1 .. 16; 16);");
        GreenLine x = new GreenLine();
        x.part(0, 0, 160, 1, 0, 0);
        Bounds.due("at first slow is 16", x.out(0, 0), 160);
        int[][] due = {{1, 10, 19}, {2, 20, 37}, {15, 150, 159}, {16, 160, 160}};
        for (int[] d : due) {
            Bounds.due("slow " + d[0], x.probe(0, 1, 1, d[0]), true);
            Bounds.due("out by slow " + d[0], x.out(0, 0), d[1]);
            Bounds.due("then out by slow " + d[0], x.out(0, 1), d[2]);
        }
        for (int channel = 0; channel < 2; channel++) {
            int c = channel;
            Bounds.refuses("slow", (y, slow) -> Bounds.number(y.probe(c, 1, 1, slow)), 0,
                    -1, 0, 17, Bounds.DEEP, Bounds.FAR);
        }
    }

    static void gains() {
        Bounds.sentence(6, "GAIN (1 .. 999; 10),");
        Bounds.due("at first", new GreenLine().about(12), 10);
        Bounds.due("at first", new GreenLine().about(13), 10);
        for (int channel = 0; channel < 2; channel++) {
            int c = channel;
            for (int gain : new int[] {1, 2, 998, 999}) {
                GreenLine x = new GreenLine();
                Bounds.due("gain " + gain, x.channel(c, 0, gain, 0), true);
                Bounds.due("it is " + gain, x.about(12 + c), gain);
                Bounds.due("the other's is 10", x.about(13 - c), 10);
            }
            Bounds.refuses("gain", (y, gain) -> Bounds.number(y.channel(c, 3, gain, 3)), 0,
                    -1, 0, 1000, Bounds.DEEP, Bounds.FAR);
        }
    }

    static void positions() {
        Bounds.sentence(6, "POSITION (-15 .. 15; 0).");
        Bounds.due("at first", new GreenLine().about(14), 0);
        Bounds.due("at first", new GreenLine().about(15), 0);
        for (int channel = 0; channel < 2; channel++) {
            int c = channel;
            for (int position : new int[] {-15, -14, -1, 0, 1, 14, 15}) {
                GreenLine x = new GreenLine();
                Bounds.due("position " + position, x.channel(c, 0, 10, position), true);
                Bounds.due("it is " + position, x.about(14 + c), position);
                Bounds.due("the other's is 0", x.about(15 - c), 0);
            }
            Bounds.refuses("position", (y, position) -> Bounds.number(y.channel(c, 3, 33, position)), 0,
                    -16, 16, Bounds.DEEP, Bounds.FAR);
        }
    }

    static void insAreCutTowardsZero() {
        Bounds.sentence(7, "IN at t: RAW * UP / DOWN, cut towards 0.");
        int[][] due = {{7, 1, 2, 3}, {-7, 1, 2, -3}, {1, 1, 20, 0}, {-1, 1, 20, 0}, {19, 1, 20, 0}, {20, 1, 20, 1},
            {-19, 1, 20, 0}, {-20, 1, 20, -1}, {-39, 1, 20, -1}, {-40, 1, 20, -2}, {1, 20, 20, 1}, {999, 20, 19, 1051},
            {-999, 20, 19, -1051}, {3, 2, 4, 1}, {0, 20, 1, 0}, {5994, 20, 1, 119880}, {-5994, 20, 1, -119880}};
        for (int[] d : due) {
            GreenLine x = new GreenLine();
            Bounds.step(x, 0, d[0], 0);
            x.probe(0, d[1], d[2], 16);
            Bounds.due(d[0] + " * " + d[1] + " / " + d[2], x.out(0, 0), d[3]);
        }
    }

    private static void outs(String name, int[] stepsOfTicks, int slow, int... due) {
        GreenLine x = new GreenLine();
        for (int tick = 0; tick < stepsOfTicks.length; tick++) x.part(1, 0, stepsOfTicks[tick], 1, 0, tick);
        x.probe(1, 1, 1, slow);
        for (int tick = 0; tick < due.length; tick++) Bounds.due(name + " at " + tick, x.out(1, tick), due[tick]);
    }

    static void outsAreCutTowardsZero() {
        Bounds.sentence(7, "OUT at t: OUT of the TICK ahead (0 ahead of TICK 0) and (IN less that) * SLOW / 16,"
                + " cut towards 0.");
        outs("15/16 of 1 is 0", new int[] {1}, 15, 0, 0, 0);
        outs("15/16 of -1 is 0", new int[] {-1}, 15, 0, 0, 0);
        outs("all of 1", new int[] {1}, 16, 1, 1);
        outs("all of -1", new int[] {-1}, 16, -1, -1);
        outs("a sixteenth of 15", new int[] {15}, 1, 0, 0);
        outs("a sixteenth of 16, then of 15", new int[] {16}, 1, 1, 1, 1);
        outs("a sixteenth of -16, then of -15", new int[] {-16}, 1, -1, -1, -1);
        outs("half of 2, then of 1", new int[] {2}, 8, 1, 1, 1);
        outs("up to 16, down by 1, then by 15/16", new int[] {256, -256}, 1, 16, 15, 15);
        outs("down to -16, up by 1, then by 15/16", new int[] {-256, 256}, 1, -16, -15, -15);
        outs("half of 99, then of 50, 25, 13, 7, 4, 2, 1", new int[] {99}, 8, 49, 74, 86, 92, 95, 97, 98, 98);
        outs("half of -99, and so on", new int[] {-99}, 8, -49, -74, -86, -92, -95, -97, -98, -98);
        outs("0 of 0", new int[] {0}, 8, 0, 0);
    }

    static void probeAnswers() {
        Bounds.sentence(5, "A PROBE: true. False for others.");
        GreenLine x = new GreenLine();
        x.part(0, 0, 100, 1, 0, 0);
        x.part(1, 0, 100, 1, 0, 0);
        Bounds.due("channel 1's probe", x.probe(1, 1, 20, 16), true);
        Bounds.due("channel 0 is as it was", x.out(0, 0), 100);
        Bounds.due("channel 1", x.out(1, 0), 5);
        Bounds.refuses("probe of", (y, c) -> Bounds.number(y.probe(c, 1, 1, 16)), 0, -1, 2, Bounds.DEEP, Bounds.FAR);
        Bounds.stays("just down is wrong", y -> Bounds.number(y.probe(0, 1, 0, 16)), 0);
        Bounds.stays("all is wrong", y -> Bounds.number(y.probe(2, 0, 21, 17)), 0);
    }

    static void channelAnswers() {
        Bounds.sentence(6, "SIGNAL, GAIN, POSITION of a CHANNEL: true. False, changing nothing, for others.");
        GreenLine x = new GreenLine();
        x.probe(0, 2, 1, 16);
        x.part(3, 0, 4, 1, 0, 0);
        Bounds.due("of signal 0", x.out(0, 0), 0);
        Bounds.due("channel", x.channel(0, 3, 999, 15), true);
        Bounds.due("the probe stays", x.out(0, 0), 8);
        Bounds.due("the other channel stays", x.about(11) == 1 && x.about(13) == 10 && x.about(15) == 0, true);
        Bounds.stays("just the signal is wrong", y -> Bounds.number(y.channel(0, 4, 33, 3)), 0);
        Bounds.stays("just the gain is wrong", y -> Bounds.number(y.channel(0, 3, 0, 3)), 0);
        Bounds.stays("just the position is wrong", y -> Bounds.number(y.channel(0, 3, 33, 16)), 0);
        Bounds.stays("all is wrong", y -> Bounds.number(y.channel(2, -1, 1000, -16)), 0);
    }

    static void outAnswers() {
        Bounds.sentence(7, "OUT at a TICK (0 .. 1999). -1000000 for others.");
        for (int channel = 0; channel < 2; channel++) {
            int c = channel;
            GreenLine x = new GreenLine();
            x.part(c, 0, 5, 1, 0, 0);
            x.part(c, 0, 3, 1, 0, 1999);
            Bounds.due("the last tick", x.out(c, 1999), 8);
            Bounds.due("the last but one", x.out(c, 1998), 5);
            Bounds.due("the first", x.out(c, 0), 5);
            Bounds.refuses("out at", (y, tick) -> y.out(c, tick), Bounds.NO_VALUE,
                    -1, 2000, 9999, Bounds.DEEP, Bounds.FAR);
        }
        Bounds.refuses("out of", (y, c) -> y.out(c, 0), Bounds.NO_VALUE, -1, 2, Bounds.DEEP, Bounds.FAR);
    }

    // ---- the screen

    static void columnsAndRows() {
        Bounds.sentence(16, "THE SCREEN: 20 COLUMNS, 16 ROWS (0 .. 15).");
        for (int row = 0; row < 16; row++) {
            GreenLine x = Bounds.flat(0, 10, row - 8);
            for (int column = 0; column < 20; column++) {
                Bounds.due("glow of " + column + ", " + row, x.glow(200, column, row), 16);
            }
            for (int other = 0; other < 16; other++) {
                Bounds.due("glow of the last column's " + other, x.glow(200, 19, other), other == row ? 16 : 0);
            }
        }
        Bounds.refuses("column", (x, column) -> x.glow(150, column, 8), Bounds.NONE,
                -1, 20, Bounds.DEEP, Bounds.FAR);
        Bounds.refuses("row", (x, row) -> x.glow(150, 0, row), Bounds.NONE, -1, 16, Bounds.DEEP, Bounds.FAR);
    }

    static void rowsOfOuts() {
        Bounds.sentence(17, "ROW of an OUT: OUT / GAIN, cut downwards, + 8 + POSITION (none, if that isn't one).");
        int none = -1;
        int[][] due = {{-1, 10, 0, 7}, {-9, 10, 0, 7}, {-10, 10, 0, 7}, {-11, 10, 0, 6}, {0, 10, 0, 8}, {9, 10, 0, 8},
            {10, 10, 0, 9}, {79, 10, 0, 15}, {80, 10, 0, none}, {-80, 10, 0, 0}, {-81, 10, 0, none},
            {-71, 10, 15, 15}, {-70, 10, 15, none}, {-230, 10, 15, 0}, {-231, 10, 15, none},
            {70, 10, -15, 0}, {69, 10, -15, none}, {229, 10, -15, 15}, {230, 10, -15, none},
            {998, 999, 0, 8}, {999, 999, 0, 9}, {-1, 999, 0, 7}, {-999, 999, 0, 7}, {-1000, 999, 0, 6},
            {7, 1, 0, 15}, {8, 1, 0, none}, {-8, 1, 0, 0}, {-9, 1, 0, none}, {5994, 1, 15, none},
            {-5994, 1, -15, none}, {0, 1, 7, 15}, {0, 1, 8, none}, {0, 1, -8, 0}, {0, 1, -9, none}};
        for (int[] d : due) {
            GreenLine x = Bounds.flat(d[0], d[1], d[2]);
            String of = "of out " + d[0] + ", gain " + d[1] + ", position " + d[2];
            Bounds.due("row " + of, x.lit(1, 1, 0), d[3] == none ? 0 : 1 << d[3]);
            Bounds.due("dots " + of, x.lit(1, 1, Bounds.NONE), d[3] == none ? 0 : 1);
        }
    }
}
