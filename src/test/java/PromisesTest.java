/** Each promise of the document, by answers worked out by hand from its words. */
public final class PromisesTest {

    private static final int NONE = -1;
    private static final int NO_VALUE = -1000000;
    private static final int FAR = Integer.MAX_VALUE;
    private static final int DEEP = Integer.MIN_VALUE;

    private static int right = 0;
    private static int wrong = 0;
    private static String promise = "";

    public static void main(String[] args) {
        newObject();
        part();
        clear();
        raw();
        probe();
        channel();
        out();
        base();
        mode();
        feed();
        end();
        text();
        fault();
        by();
        swept();
        wordsAndSums();
        glow();
        lit();
        otherwise();
        caught();
        photo();
        shoot();
        settings();
        measure();
        parting();
        image();
        back();
        about();
        System.out.println("PromisesTest: " + right + " passed, " + wrong + " failed");
        if (wrong > 0) System.exit(1);
    }

    // ---- helpers

    private static void due(String call, long got, long want) {
        if (got == want) {
            right++;
        } else {
            wrong++;
            System.out.println(promise + ": " + call + " answered " + got + ", due is " + want);
        }
    }

    private static void due(String call, boolean got, boolean want) {
        due(call, got ? 1 : 0, want ? 1 : 0);
    }

    private static GreenLine told(String text) {
        GreenLine x = new GreenLine();
        x.base(1, 0, 16);
        due("text \"" + text + "\"", Tape.tell(x, text), 0);
        due("by(0)", x.by(0), true);
        return x;
    }

    // ---- the promises

    private static void newObject() {
        promise = "1 a new object";
        GreenLine x = new GreenLine();
        int[] due = {0, NONE, 10, 0, 16, 0, 1, 0};
        for (int what = 0; what < due.length; what++) due("about(" + what + ")", x.about(what), due[what]);
        int[] inputs = {0, 1, 10, 10, 0, 0};
        for (int k = 0; k < inputs.length; k++) due("about(" + (10 + k) + ")", x.about(10 + k), inputs[k]);
        for (int s = 0; s < 4; s++) {
            due("about parts", x.about(20 + s), 0);
            due("raw", x.raw(s, 77), 0);
        }
        due("fault(0)", x.fault(0), NONE);
        due("fault(1)", x.fault(1), NONE);
        due("glow", x.glow(1, 0, 8), 16);
        due("the photograph is empty", x.settings(1, 999, NONE), 160);
        x.part(0, 0, 7, 1, 0, 0);
        x.part(1, 0, 9, 1, 0, 0);
        due("out(0, 0)", x.out(0, 0), 7);
        due("out(1, 0)", x.out(1, 0), 9);
        x.base(3, 4, 5);
        due("the image is a new object", x.back(), 0);
        due("parts", x.about(20), 0);
        due("pace", x.about(2), 10);
        due("NONE", GreenLine.NONE, -1);
    }

    private static void part() {
        promise = "2 part";
        GreenLine x = new GreenLine();
        int[][] others = {
            {-1, 0, 1, 1, 1, 1}, {4, 0, 1, 1, 1, 1}, {0, -1, 1, 1, 1, 1}, {0, 3, 1, 1, 1, 1},
            {0, 0, -1000, 1, 1, 1}, {0, 0, 1000, 1, 1, 1}, {0, 0, 1, 0, 1, 1}, {0, 0, 1, 501, 1, 1},
            {0, 0, 1, 1, -1, 1}, {0, 0, 1, 1, 501, 1}, {0, 0, 1, 1, 1, -1}, {0, 0, 1, 1, 1, 2000},
            {FAR, 0, 1, 1, 1, 1}, {DEEP, 0, 1, 1, 1, 1}, {0, 1, 1, DEEP, 1, 1}, {0, 2, FAR, FAR, FAR, FAR},
        };
        for (int[] p : others) due("part", x.part(p[0], p[1], p[2], p[3], p[4], p[5]), NONE);
        due("no part came", x.about(20), 0);
        due("edges", x.part(3, 2, -999, 500, 500, 1999), 1);
        due("edges", x.part(3, 0, 999, 1, 0, 0), 2);
        for (int k = 1; k <= 6; k++) due("part " + k, x.part(2, 1, k, 5, 5, 0), k);
        due("the 7th", x.part(2, 1, 1, 5, 5, 0), NONE);
        due("it did not come", x.raw(2, 3), 21);
        due("others stay", x.about(20), 0);
    }

    private static void clear() {
        promise = "3 clear";
        GreenLine x = new GreenLine();
        x.part(1, 0, 5, 1, 0, 0);
        x.part(1, 0, 6, 1, 0, 0);
        x.part(2, 0, 7, 1, 0, 0);
        due("out ahead of it", x.out(1, 3), 11);
        due("clear(-1)", x.clear(-1), NONE);
        due("clear(4)", x.clear(4), NONE);
        due("clear(1)", x.clear(1), 2);
        due("raw", x.raw(1, 3), 0);
        due("out behind it", x.out(1, 3), 0);
        due("another signal", x.raw(2, 3), 7);
        due("clear again", x.clear(1), 0);
        due("a part anew", x.part(1, 0, 4, 1, 0, 0), 1);
        due("raw anew", x.raw(1, 0), 4);
    }

    private static void raw() {
        promise = "4 raw";
        GreenLine x = new GreenLine();
        x.part(0, 0, 7, 3, 2, 10);
        due("a step ahead", x.raw(0, 9), 0);
        due("a step", x.raw(0, 10), 7);
        due("a step far on", x.raw(0, 9999), 7);
        x.part(1, 1, 100, 8, 4, 3);
        int[] square = {0, 0, 0, 100, 100, 100, 100, 0, 0, 0, 0, 100};
        for (int t = 0; t < square.length; t++) due("square " + t, x.raw(1, t), square[t]);
        x.part(2, 2, -10, 4, 0, 1);
        int[] saw = {-7, 0, -2, -5, -7, 0};
        for (int t = 0; t < saw.length; t++) due("saw " + t, x.raw(2, t), saw[t]);
        x.part(2, 2, 10, 4, 0, 0);
        due("together", x.raw(2, 3), 2);
        x.part(3, 1, -9, 5, 5, 1999);
        due("as wide as the period", x.raw(3, 4), -9);
        x.part(3, 1, 8, 5, 0, 0);
        due("no width", x.raw(3, 5), -9);
        due("tick -1", x.raw(0, -1), NO_VALUE);
        due("tick 10000", x.raw(0, 10000), NO_VALUE);
        due("signal 4", x.raw(4, 0), NO_VALUE);
        due("signal -1", x.raw(-1, 0), NO_VALUE);
    }

    private static void probe() {
        promise = "5 probe";
        GreenLine x = new GreenLine();
        x.part(0, 0, -7, 1, 0, 0);
        x.part(1, 0, 7, 1, 0, 0);
        due("divided", x.probe(0, 1, 2, 16), true);
        due("cut towards 0", x.out(0, 0), -3);
        due("the other channel", x.out(1, 0), 7);
        due("multiplied", x.probe(1, 20, 3, 16), true);
        due("up ahead of down", x.out(1, 0), 46);
        due("slow", x.probe(0, 1, 1, 5), true);
        due("-7 * 5 / 16", x.out(0, 0), -2);
        due("-2 and -5 * 5 / 16", x.out(0, 1), -3);
        due("-3 and -4 * 5 / 16", x.out(0, 2), -4);
        due("stands", x.out(0, 3), -4);
        int[][] others = {{-1, 1, 1, 1}, {2, 1, 1, 1}, {0, 0, 1, 1}, {0, 21, 1, 1}, {0, 1, 0, 1}, {0, 1, 21, 1},
            {0, 1, 1, 0}, {0, 1, 1, 17}, {0, DEEP, FAR, 3}};
        for (int[] p : others) due("others", x.probe(p[0], p[1], p[2], p[3]), false);
        due("nothing is changed", x.out(0, 0), -2);
        due("edges", x.probe(0, 20, 20, 16), true);
        due("edges", x.probe(0, 1, 1, 1), true);
    }

    private static void channel() {
        promise = "6 channel";
        GreenLine x = new GreenLine();
        x.part(3, 0, 12, 1, 0, 0);
        due("out ahead", x.out(0, 0), 0);
        due("channel", x.channel(0, 3, 999, -15), true);
        due("out behind", x.out(0, 0), 12);
        int[][] others = {{-1, 0, 1, 0}, {2, 0, 1, 0}, {0, -1, 1, 0}, {0, 4, 1, 0}, {0, 0, 0, 0}, {0, 0, 1000, 0},
            {0, 0, 1, -16}, {0, 0, 1, 16}};
        for (int[] p : others) due("others", x.channel(p[0], p[1], p[2], p[3]), false);
        due("signal", x.about(10), 3);
        due("gain", x.about(12), 999);
        due("position", x.about(14), -15);
        due("channel 1's signal", x.about(11), 1);
        due("edges", x.channel(1, 0, 1, 15), true);
        due("position", x.about(15), 15);
    }

    private static void out() {
        promise = "7 out";
        GreenLine x = new GreenLine();
        x.part(0, 1, 100, 8, 4, 0);
        x.probe(0, 1, 1, 8);
        int[] outs = {50, 75, 87, 93, 47, 24, 12, 6, 53};
        for (int t = outs.length - 1; t >= 0; t--) due("out " + t, x.out(0, t), outs[t]);
        x.part(0, 0, 10, 1, 0, 0);
        due("another part", x.out(0, 0), 55);
        due("the last tick", x.out(1, 1999), 0);
        x.part(1, 0, 9, 1, 0, 1999);
        due("the last tick", x.out(1, 1999), 9);
        due("tick 2000", x.out(0, 2000), NO_VALUE);
        due("tick -1", x.out(0, -1), NO_VALUE);
        due("channel 2", x.out(2, 0), NO_VALUE);
        due("channel -1", x.out(-1, 0), NO_VALUE);
    }

    private static void base() {
        promise = "8 base";
        GreenLine x = new GreenLine();
        due("edges", x.base(50, 999, 0), true);
        int[][] others = {{0, 0, 0}, {51, 0, 0}, {1, -1, 0}, {1, 1000, 0}, {1, 0, -1}, {1, 0, 17}};
        for (int[] p : others) due("others", x.base(p[0], p[1], p[2]), false);
        due("pace", x.about(2), 50);
        due("delay", x.about(3), 999);
        due("fade", x.about(4), 0);
        due("a late sweep", x.swept(1, 0), 999);
        due("edges", x.base(1, 0, 16), true);
        due("pace", x.about(2), 1);
    }

    private static void mode() {
        promise = "9 mode";
        GreenLine x = new GreenLine();
        due("edges", x.mode(3, 50), true);
        int[][] others = {{-1, 1}, {4, 1}, {0, 0}, {0, 51}};
        for (int[] p : others) due("others", x.mode(p[0], p[1]), false);
        due("mode", x.about(5), 3);
        due("chop", x.about(6), 50);
        due("edges", x.mode(0, 1), true);
        due("mode", x.about(5), 0);
    }

    private static void feed() {
        promise = "10 feed";
        GreenLine x = new GreenLine();
        due("highest first", Tape.feed(x, "hold 7;"), 20);
        due("read", x.text(), 0);
        due("signs beyond 127", x.feed(0x68_6F_6C_64, 0x20_FF_20_20, 0, 0, 0), 20);
        due("none", x.text(), NONE);
        due("its place", x.fault(1), 5);
        for (int k = 1; k <= 15; k++) due("feed " + k, x.feed(0, 0, 0, 0, 0), 20 * k);
        due("the 16th", x.feed(1, 2, 3, 4, 5), NONE);
        due("none came", x.about(7), 300);
        x.end(281);
        due("281 and 20", x.feed(1, 2, 3, 4, 5), NONE);
        x.end(280);
        due("280 and 20", x.feed(1, 2, 3, 4, 5), 300);
    }

    private static void end() {
        promise = "11 end";
        GreenLine x = new GreenLine();
        due("an empty tape", x.end(0), 0);
        due("more than it has", x.end(1), NONE);
        Tape.feed(x, "hold 7;xx");
        due("below 0", x.end(-1), NONE);
        due("too many", x.end(21), NONE);
        due("nothing is done", x.about(7), 20);
        due("all of it", x.end(20), 20);
        due("the first ones", x.end(7), 7);
        due("shorter", x.about(7), 7);
        due("read", x.text(), 0);
        due("empty now", x.end(1), NONE);
    }

    private static void text() {
        promise = "12 text";
        GreenLine x = new GreenLine();
        due("the empty text", x.text(), 0);
        due("a text", Tape.tell(x, "hold 1;"), 1);
        due("the tape is empty", x.about(7), 0);
        due("a fault", Tape.tell(x, "hold 1"), NONE);
        due("the tape is empty then too", x.about(7), 0);
        due("two texts", x.about(0), 2);
        due("a text", Tape.tell(x, " \n begin now > 1 ; \n"), 2);
        due("a text", Tape.tell(x, "begin 1<2;"), 3);
        due("the 5th", Tape.tell(x, "hold 10000;"), NONE);
        due("the tape stays", x.about(7), 11);
        due("it was not read", x.fault(0), 0);
        due("four texts", x.about(0), 4);
        x = new GreenLine();
        due("a fault with much open", Tape.tell(x, "hold 7;begin not not not not((((1+"), NONE);
        due("nothing of it is left", Tape.tell(x, "begin not not not not((((1))))<2 and tick=6;"), 0);
        x.by(0);
        due("its trigger", x.swept(2000, 0), 6);
        due("it holds nothing", Tape.tell(x, "begin tick=1 or since=5;"), 1);
        x.by(1);
        due("ready by no hold", x.swept(2000, 1), 1 + 200 + 5);
        GreenLine y = new GreenLine();
        y.base(1, 0, 16);
        Tape.tell(y, "hold 50;x");
        due("nothing is held", Tape.tell(y, ""), 0);
        y.by(0);
        due("ready by no hold", y.swept(100, 1), 20);
        due("ten clauses", Tape.tell(x, "begin 1<1;".repeat(10)), 2);
        due("and ten anew", Tape.tell(x, "hold 3;" + "begin 1<1;".repeat(9)), 3);
        x.by(3);
        due("the last text", x.swept(2000, NONE), 0);
        String longest = "begin 1<2;" + " ".repeat(290);
        due("300 bytes", Tape.tell(new GreenLine(), longest), 0);
        due("300 bytes of tokens", Tape.tell(new GreenLine(), "hold 0" + "+0".repeat(146) + " ;"), 0);
    }

    private static void faulty(String text, int fault, int place) {
        GreenLine x = new GreenLine();
        due("\"" + text + "\" is no text", Tape.tell(x, text), NONE);
        due("\"" + text + "\" has the fault", x.fault(0), fault);
        due("\"" + text + "\" at the place", x.fault(1), place);
    }

    private static void sound(String text) {
        GreenLine x = new GreenLine();
        due("\"" + text + "\" is a text", Tape.tell(x, text), 0);
        due("\"" + text + "\" has no fault", x.fault(0), 0);
        due("\"" + text + "\" has no place", x.fault(1), NONE);
    }

    private static void fault() {
        promise = "13 fault";
        GreenLine x = new GreenLine();
        due("ahead of any", x.fault(0), NONE);
        due("ahead of any", x.fault(1), NONE);
        Tape.tell(x, "x");
        due("others", x.fault(2), NONE);
        due("others", x.fault(-1), NONE);
        due("a fault", x.fault(0), 1);
        Tape.tell(x, "");
        due("the latest", x.fault(0), 0);
        due("the latest", x.fault(1), NONE);
        faultsOfPlace();
        faultsOfNumbers();
        faultsOfOpenSigns();
        faultsOfClauses();
    }

    private static void faultsOfPlace() {
        faulty("x", 1, 0);
        faulty(";", 1, 0);
        faulty("10000", 1, 0);
        faulty("begin", 1, 5);
        faulty("begin  ", 1, 7);
        faulty("begin now>1", 1, 11);
        faulty("Begin now>1;", 1, 0);
        faulty("beginn now>1;", 1, 0);
        faulty("hold now>1;", 1, 8);
        faulty("hold 1 and 1;", 1, 7);
        faulty("begin (now>1);", 1, 10);
        faulty("begin now;", 1, 9);
        faulty("begin 1<2<3;", 1, 9);
        faulty("begin 1<2 or;", 1, 12);
        faulty("begin 1 or 1<2;", 1, 8);
        faulty("begin 1<2 not 1<2;", 1, 10);
        faulty("begin not (1<2);", 1, 12);
        faulty("begin (not 1)<2;", 1, 7);
        faulty("begin 1<not 1;", 1, 8);
        faulty("begin - not 1<1;", 1, 8);
        faulty("begin 1 2<3;", 1, 8);
        faulty("begin (1<2;", 1, 8);
        faulty("begin 1<(2;", 1, 10);
        faulty("hold not 1;", 1, 5);
        faulty("hold 1;;", 1, 7);
        faulty("hold );", 1, 5);
        faulty("hold (1;", 1, 7);
        faulty("hold 1);", 1, 6);
        faulty("hold ();", 1, 6);
        faulty("hold ;", 1, 5);
        faulty("hold hold;", 1, 5);
        faulty("hold +1;", 1, 5);
        faulty("hold 1**1;", 1, 7);
        faulty("begin 1< =2;", 1, 9);
        faulty("begin 1=>2;", 1, 8);
        faulty("begin 1<>2;", 1, 8);
        faulty("hold 1!;", 1, 6);
        faulty("hold\t1;", 1, 4);
        faulty("hold nowx;", 1, 5);
        faulty("hold now now;", 1, 9);
        faulty("hold 1a;", 1, 6);
        faulty("hold a1;", 1, 5);
        faulty("hold \u00e9;", 1, 5);
        sound("");
        sound(" \n");
        sound("begin1<2;hold1;");
        sound("begin 1<2and 3#4or 5>=6;");
        sound("begin\nnow-ahead*other/tick<=(line)+-sweeps-since;");
    }

    private static void faultsOfNumbers() {
        sound("hold 9999;");
        sound("hold 00000009999;");
        faulty("hold 10000;", 2, 5);
        faulty("hold 1+ 99999999999999999999;", 2, 8);
        faulty("hold 4294967297;", 2, 5);
        faulty("hold 1 10000;", 1, 7);
    }

    private static void faultsOfOpenSigns() {
        sound("hold ((((((((1))))))));");
        faulty("hold (((((((((1)))))))));", 3, 13);
        sound("hold --------1;");
        faulty("hold ---------1;", 3, 13);
        sound("begin not not not not not not not not 1<1;");
        faulty("begin not not not not not not not not not 1<1;", 3, 38);
        faulty("begin not not not(-(-(-1)))<1;", 3, 22);
        sound("begin not not(-(-(-1)))<-(-(-(1)));");
        sound("hold ((((((((1-1))))))));");
        faulty("hold ((((((((1--1", 3, 15);
        faulty("hold (((((((( not", 1, 14);
        sound("hold -(1)*((((((((1))))))));");
        sound("hold -1*--------1;");
        faulty("begin not (1)<((((((((1", 3, 21);
        sound("begin not 1<1 and ((((((((1))))))))<1;");
        sound("begin not not not not not not not not 1<1 or not 1<1;");
    }

    private static void faultsOfClauses() {
        faulty("hold 1;hold 2;", 4, 7);
        faulty("hold 1;begin 1<2;hold", 4, 17);
        String ten = "begin 1<2;".repeat(10);
        sound(ten);
        faulty(ten + "begin 1<2;", 5, 100);
        faulty(ten + " \nhold 1;", 5, 102);
        faulty(ten + "x", 1, 100);
        String held = "hold 1;" + "begin 1<2;".repeat(9);
        sound(held);
        faulty(held + "begin", 5, 97);
        faulty(held + "hold", 4, 97);
    }

    private static void by() {
        promise = "14 by";
        GreenLine x = new GreenLine();
        due("none", x.by(NONE), true);
        due("no text yet", x.by(0), false);
        Tape.tell(x, "begin 1>2;");
        due("0", x.by(0), true);
        due("told", x.about(1), 0);
        due("never", x.swept(2000, NONE), 0);
        due("1", x.by(1), false);
        due("-2", x.by(-2), false);
        due("it stays", x.about(1), 0);
        due("none again", x.by(NONE), true);
        due("none told", x.about(1), NONE);
        due("freely", x.swept(2000, NONE), 10);
    }

    private static void swept() {
        promise = "15 swept";
        GreenLine x = new GreenLine();
        due("T 0", x.swept(0, NONE), NONE);
        due("T 2001", x.swept(2001, NONE), NONE);
        due("i -2", x.swept(10, -2), NONE);
        x.base(2, 0, 16);
        due("by 20 pace", x.swept(40, NONE), 1);
        due("by 20 pace", x.swept(41, NONE), 2);
        due("the second", x.swept(41, 1), 40);
        due("none such", x.swept(41, 2), NONE);
        due("none such", x.swept(41, FAR), NONE);
        x.base(2, 7, 16);
        due("delayed beyond T", x.swept(1, 0), 7);
        due("ready behind the delay", x.swept(48, 1), 54);
        due("not ahead of it", x.swept(47, 1), NONE);
        x = told("hold tick+5;");
        int[] begins = {0, 25, 75, 175};
        for (int i = 0; i < 4; i++) due("hold by the tick", x.swept(200, i), begins[i]);
        due("how many", x.swept(200, NONE), 4);
        x.base(1, 5, 16);
        due("hold is asked at the trigger", x.swept(200, 2), 95);
        due("below 0 it is 0", told("hold 0-50;").swept(100, NONE), 5);
        due("hold 9999", told("hold 9999*9;").swept(2000, NONE), 1);
        x = told("begin tick=3;begin tick=30 and 1=1;begin 1=2;hold 2;");
        due("any begin clause", x.swept(100, NONE), 2);
        due("the first", x.swept(100, 0), 3);
        due("the other", x.swept(100, 1), 30);
        due("below T alone", x.swept(30, NONE), 1);
        due("the last T", new GreenLine().swept(2000, 9), 1800);
    }

    /** If this asked at tick 0 is so. */
    private static void so(String ask, boolean want) {
        due(ask, told("begin " + ask + ";").swept(1, NONE), want ? 1 : 0);
    }

    private static void wordsAndSums() {
        promise = "15 swept, by the words";
        String[] so = {"1<2", "1<=1", "2>1", "2>=2", "3=3", "3#4", "2+3*4=14", "(2+3)*4=20", "10-3-2=5",
            "100/5/2=10", "7/2=3", "-7/2=-3", "0-7/2=-3", "7/(0-2)=-3", "7/0=0", "0-7/0=0", "5/(now)=0",
            "9999*9999=1000*1000", "9999*9999-1=1000*1000-1", "-9999*9999=-1000*1000", "9999*9999*0=0",
            "(9999*9999-1)/9*0=0", "9999*9999/1000=1000", "-9999*9999-5=-1000*1000", "1000*1000+5=1000*1000",
            "--5=5", "-(2+3)=0-5", "2*-3=-6", "not 1=2", "not not 1=1", "not 1=1 or 1=1",
            "1=1 or 1=1 and 1=2", "1=2 and 1=2 or 1=1", "not 1=2 and 1=1", "1=2 or 1=2 or 1=1",
            "tick=0", "line=0", "sweeps=0", "since=0", "now=0", "ahead=0", "other=0"};
        for (String ask : so) so(ask, true);
        String[] not = {"2<1", "1<1", "2<=1", "1>1", "1>=2", "3=4", "3#3", "not 1=1", "not 1=2 and 1=2",
            "1=2 and 1=1", "1=2 or 1=2", "not not 1=2", "not 1=1 or 1=2", "(2+3)*4=14", "(2+3)*4=21", "1<0+1", "1+1<1", "2<1*2", "3-2-1=2",
            "now+1=0", "1=2 and 1=1 or 1=2"};
        for (String ask : not) so(ask, false);
        GreenLine x = told("begin since=5;");
        due("since ahead of a first sweep", x.swept(31, 0), 5);
        due("since ready", x.swept(31, 1), 30);
        x = told("begin line=3;");
        due("line", x.swept(100, 1), 43);
        due("line", x.swept(100, 2), 83);
        due("sweeps", told("begin sweeps<2;").swept(2000, NONE), 2);
        x = told("hold sweeps*10;");
        due("sweeps as they are at the tick", x.swept(100, 1), 20);
        due("sweeps as they are at the tick", x.swept(100, 2), 50);
        due("since as it is at the tick", told("begin since=5;hold since*2;").swept(100, 1), 5 + 20 + 10 + 5);
        x = told("begin now>ahead;");
        x.part(0, 0, 5, 1, 0, 12);
        x.part(0, 0, 5, 1, 0, 40);
        due("now and ahead", x.swept(100, 0), 12);
        due("now and ahead", x.swept(100, 1), 40);
        due("no third", x.swept(100, NONE), 2);
        x = told("begin other<-2;");
        x.part(1, 0, -3, 1, 0, 17);
        due("other", x.swept(100, 0), 17);
        x.probe(1, 1, 2, 16);
        due("other by its probe", x.swept(100, NONE), 0);
        due("0 is a number", told("begin tick-6=0;").swept(100, 0), 6);
        x = told("begin ahead>0;");
        x.part(0, 0, 5, 1, 0, 0);
        due("ahead of tick 0", x.swept(100, 0), 1);
    }

    private static GreenLine twoLines(int mode, int chop) {
        GreenLine x = new GreenLine();
        x.base(1, 0, 16);
        x.channel(0, 0, 10, -2);
        x.channel(1, 1, 10, 3);
        x.mode(mode, chop);
        return x;
    }

    private static void glow() {
        promise = "16 glow";
        GreenLine x = new GreenLine();
        int[][] others = {{0, 0, 0}, {2001, 0, 0}, {1, -1, 0}, {1, 20, 0}, {1, 0, -1}, {1, 0, 16}};
        for (int[] p : others) due("others", x.glow(p[0], p[1], p[2]), NONE);
        x.base(1, 0, 8);
        due("one sweep", x.glow(20, 0, 8), 16);
        due("another row", x.glow(20, 0, 9), 0);
        due("two sweeps", x.glow(21, 0, 8), 24);
        due("four sweeps", x.glow(61, 0, 8), 30);
        due("faded once more than drawn", x.glow(61, 1, 8), 14);
        x.channel(0, 0, 10, -8);
        due("the lowest row", x.glow(1, 0, 0), 16);
        x.channel(0, 0, 10, 7);
        due("the lowest row no more", x.glow(1, 0, 0), 0);
        due("the last dot", x.glow(20, 19, 15), 16);
        x.channel(0, 0, 10, -8);
        x.glow(1, 0, 0);
        x.base(1, 1, 8);
        due("each call begins in the dark", x.glow(1, 0, 0), 0);
        due("each call begins in the dark", x.glow(2, 0, 0), 16);
        x.channel(0, 0, 10, 0);
        x.base(1, 5, 0);
        due("begins at T: not faded", x.glow(30, 1, 8), 16);
        due("begins below T", x.glow(31, 1, 8), 0);
        due("and is drawn", x.glow(31, 0, 8), 16);
        x.base(1, 0, 16);
        x.mode(3, 1);
        due("against", x.glow(62, 10, 8), 992);
        due("999 at most", x.glow(63, 10, 8), 999);
        due("999 at most", x.glow(2000, 10, 8), 999);
        x = twoLines(1, 1);
        due("alternate", x.glow(41, 0, 6), 32);
        due("alternate", x.glow(41, 0, 11), 16);
        due("alternate", x.glow(41, 1, 6), 16);
        x = twoLines(0, 1);
        due("channel 0 alone", x.glow(41, 0, 11), 0);
        due("channel 0 alone", x.glow(41, 0, 6), 48);
    }

    private static void lit() {
        promise = "17 lit";
        GreenLine x = twoLines(2, 3);
        int[][] others = {{0, 1, 0}, {2001, 1, 0}, {1, 0, 0}, {1, 1000, 0}, {1, 1, -2}, {1, 1, 20}};
        for (int[] p : others) due("others", x.lit(p[0], p[1], p[2]), NONE);
        due("chopped", x.lit(20, 1, 2), 1 << 6);
        due("chopped", x.lit(20, 1, 3), 1 << 11);
        due("chopped by ticks, not columns", x.lit(40, 1, 1), (1 << 6) + (1 << 11));
        due("dots", x.lit(20, 1, NONE), 20);
        x.mode(2, 1);
        due("chopped at each tick", x.lit(20, 1, 2), 1 << 6);
        due("chopped at each tick", x.lit(20, 1, 3), 1 << 11);
        due("by 16", x.lit(20, 16, NONE), 20);
        due("by 17", x.lit(20, 17, NONE), 0);
        due("as far as T", x.lit(7, 1, NONE), 7);
        due("not yet", x.lit(7, 1, 7), 0);
        x = new GreenLine();
        x.part(0, 0, -1, 1, 0, 0);
        due("cut downwards", x.lit(1, 1, 0), 1 << 7);
        x.channel(0, 0, 10, -7);
        due("the lowest row", x.lit(1, 1, 0), 1);
        x.channel(0, 0, 10, -8);
        due("below it none", x.lit(1, 1, NONE), 0);
        x.channel(0, 0, 10, 8);
        due("the highest row", x.lit(1, 1, 0), 1 << 15);
        x.channel(0, 0, 10, 9);
        due("above it none", x.lit(1, 1, NONE), 0);
        x.channel(0, 0, 1, 0);
        x.mode(3, 1);
        due("against: a column cut downwards", x.lit(1, 1, 9), 1 << 8);
        x.channel(0, 0, 10, -10);
        due("left of the screen", x.lit(1, 1, NONE), 0);
        x.channel(0, 0, 10, 10);
        due("the last column", x.lit(1, 1, 19), 1 << 8);
        x.channel(0, 0, 10, 11);
        due("right of the screen", x.lit(1, 1, NONE), 0);
        x.channel(0, 0, 10, 0);
        x.channel(1, 1, 10, 8);
        due("a row beyond the screen", x.lit(1, 1, NONE), 0);
    }

    private static void otherwise() {
        promise = "18 otherwise";
        GreenLine x = new GreenLine();
        x.part(0, 1, 100, 8, 4, 0);
        x.base(2, 0, 16);
        int[] due = {80300, 80400, 80407, 80507};
        for (int i = 0; i < 4; i++) due("the " + i + "-th", x.otherwise(0, 0, i), due[i]);
        due("none such", x.otherwise(0, 0, 4), NONE);
        due("how many", x.otherwise(0, 0, NONE), 4);
        x.base(1, 0, 16);
        due("each tick", x.otherwise(0, 0, NONE), 1);
        due("each tick", x.otherwise(0, 3, 0), 80400);
        x.probe(0, 3, 1, 16);
        due("the greatest sample as height", x.otherwise(0, 3, 0), 80400);
        x.part(0, 0, 1, 1, 0, 0);
        due("no square", x.otherwise(0, 3, NONE), 0);
        due("no square", x.otherwise(0, 3, 0), NONE);
        due("the greatest is 0", x.otherwise(1, 0, NONE), 0);
        due("the greatest is 0", x.otherwise(1, 0, 0), NONE);
        x.part(1, 0, -5, 1, 0, 0);
        due("the greatest is below 0", x.otherwise(1, 0, NONE), 0);
        due("tick 1000", x.otherwise(1, 1000, NONE), 0);
        int[][] others = {{-1, 0, 0}, {2, 0, 0}, {0, -1, NONE}, {0, 1001, NONE}, {0, 0, -2}};
        for (int[] p : others) due("others", x.otherwise(p[0], p[1], p[2]), NONE);
        x = new GreenLine();
        x.part(0, 1, 1, 2, 1, 1);
        x.base(1, 0, 16);
        due("the least square, of height 1", x.otherwise(0, 0, 0), 20101);
        due("its fellows: of period 2 alone", x.otherwise(0, 0, NONE), 1);
        due("seen from another tick", x.otherwise(0, 1, 0), 20101);
        x.part(0, 1, 5, 500, 1, 0);
        due("the first sample is another", x.otherwise(0, 0, NONE), 0);
        due("it is looked at no more", x.otherwise(0, 1, NONE), 1);
        x = new GreenLine();
        x.part(0, 0, 5, 1, 0, 1);
        x.base(1, 0, 16);
        due("19 alike behind a first 0: on from 1 to 19 at least", x.otherwise(0, 0, 0), 201901);
        x = new GreenLine();
        x.part(0, 0, 5, 1, 0, 0);
        x.base(24, 0, 16);
        due("a period of 24, seen at its ticks 0, that are 1 behind from: the last", lastElse(x, 0), 242323);
        x.base(50, 0, 16);
        due("the farthest sample", x.otherwise(0, 1000, NONE) > 0, true);
    }

    private static int lastElse(GreenLine x, int tick) {
        return x.otherwise(0, tick, x.otherwise(0, tick, NONE) - 1);
    }

    private static void caught() {
        promise = "19 caught";
        GreenLine x = new GreenLine();
        due("no part", x.caught(0, 40), NONE);
        x.part(0, 1, 100, 10, 1, 3);
        x.part(1, 1, 1, 10, 1, 0);
        x.part(1, 0, 1, 10, 1, 0);
        due("the last is no square", x.caught(1, 40), NONE);
        int[][] others = {{-1, 40}, {4, 40}, {0, 0}, {0, 2001}};
        for (int[] p : others) due("others", x.caught(p[0], p[1]), NONE);
        x.base(2, 0, 16);
        due("each second", x.caught(0, 40), 5);
        due("one tick", x.caught(0, 1), 1);
        due("from is as it was", x.raw(0, 3), 100);
        due("from is as it was", x.out(0, 3), 100);
        x.base(10, 0, 16);
        due("one phase of ten", x.caught(0, 2000), 1);
        x.channel(0, 0, 1, 0);
        due("beyond the screen too", x.caught(0, 2000), 1);
        x.mode(3, 1);
        x.channel(1, 3, 1, 0);
        due("against: channel 0 has it", x.caught(0, 2000), 1);
        x.mode(0, 1);
        x.channel(0, 2, 1, 0);
        due("no channel has it", x.caught(0, 2000), 0);
        x.channel(1, 0, 1, 0);
        due("not the channel's turn", x.caught(0, 2000), 0);
        x.mode(1, 1);
        due("alternate: not yet", x.caught(0, 200), 0);
        due("alternate", x.caught(0, 201), 1);
        x.mode(2, 5);
        due("chopped: 0, 10, .. are channel 0's", x.caught(0, 2000), 0);
        x.base(5, 0, 16);
        due("chopped: 5, 15, .. are channel 1's", x.caught(0, 2000), 1);
        x.mode(3, 1);
        due("against", x.caught(0, 2000), 2);
        x.channel(1, 2, 1, 0);
        due("against, but neither has it", x.caught(0, 2000), 0);
        x = told("begin now>0;");
        x.part(0, 1, 100, 50, 1, 7);
        due("by a trigger on the spike itself", x.caught(0, 50), 50);
        due("by a trigger on the spike itself", x.caught(0, 30), 30);
        x.clear(0);
        x.part(0, 1, 100, 500, 0, 0);
        due("no width", x.caught(0, 300), 0);
        x.base(1, 1, 16);
        x.clear(0);
        for (int k = 0; k < 5; k++) x.part(0, 0, 0, 1, 0, 0);
        x.part(0, 1, 100, 50, 1, 7);
        due("by triggers that come too late", x.caught(0, 50), 0);
        due("by the next spike, at the last tick but not at T", x.caught(0, 59), 0);
        due("out is as it was", x.out(0, 7), 100);
        due("out is as it was", x.out(0, 49), 0);
        x.base(10, 0, 16);
        x.by(NONE);
        due("ticks 0, 10, .. 40", x.caught(0, 41), 5);
        due("not T", x.caught(0, 40), 4);
    }

    private static void photo() {
        promise = "20 photo";
        GreenLine x = new GreenLine();
        int[][] others = {{-1, 0}, {20, 0}, {0, -1}, {0, 65536}};
        for (int[] p : others) due("others", x.photo(p[0], p[1]), false);
        due("as it was", x.settings(1, 17, NONE), 160);
        due("edges", x.photo(19, 65535), true);
        due("other than nothing lit", x.settings(1, 17, NONE), 0);
        due("edges", x.photo(19, 0), true);
        due("row 8", x.photo(0, 256), true);
        due("one dot", x.settings(1, 1, NONE), 160);
        due("another row", x.photo(0, 128), true);
        due("another dot", x.settings(1, 1, NONE), 0);
    }

    private static void shoot() {
        promise = "21 shoot";
        GreenLine x = new GreenLine();
        int[][] others = {{0, 1}, {2001, 1}, {1, 0}, {1, 1000}};
        for (int[] p : others) due("others", x.shoot(p[0], p[1]), NONE);
        due("as it was", x.settings(1, 17, NONE), 160);
        x.base(1, 0, 16);
        x.photo(3, 7);
        due("dots", x.shoot(5, 16), 5);
        due("the photograph is that alone", x.settings(5, 1, NONE), 8);
        due("none so bright", x.shoot(5, 17), 0);
        due("nothing", x.settings(1, 17, NONE), 160);
    }

    private static void settings() {
        promise = "22 settings";
        GreenLine x = new GreenLine();
        x.part(0, 0, 100, 1, 0, 0);
        x.channel(0, 0, 20, 0);
        x.channel(1, 1, 77, 0);
        x.base(1, 0, 16);
        due("shoot", x.shoot(20, 1), 20);
        x.base(7, 0, 16);
        x.channel(0, 0, 321, 0);
        due("one", x.settings(20, 1, NONE), 1);
        due("it", x.settings(20, 1, 0), 1020);
        due("none such", x.settings(20, 1, 1), NONE);
        due("pace is as it was", x.about(2), 7);
        due("gain is as it was", x.about(12), 321);
        due("channel 1's too", x.about(13), 77);
        int[][] others = {{0, 1, NONE}, {2001, 1, NONE}, {1, 0, NONE}, {1, 1000, NONE}, {1, 1, -2}};
        for (int[] p : others) due("others", x.settings(p[0], p[1], p[2]), NONE);
        x.channel(0, 0, 200, 0);
        x.shoot(1, 1);
        due("each pace", x.settings(1, 1, NONE), 20);
        due("the first", x.settings(1, 1, 0), 1200);
        due("the last", x.settings(1, 1, 19), 20200);
        x.clear(0);
        x.shoot(1, 1);
        due("by pace, then gain", x.settings(1, 1, 8), 2001);
        int[] gains = {1, 2, 5, 10, 20, 50, 100, 200};
        for (int g = 0; g < 8; g++) due("gain", x.settings(1, 1, g), 1000 + gains[g]);
    }

    private static void measure() {
        promise = "23 measure";
        GreenLine x = new GreenLine();
        x.part(0, 2, 100, 20, 0, 0);
        int[] due = {0, 95, 16, 10, NO_VALUE, NO_VALUE};
        for (int what = 0; what < 6; what++) due("what " + what, x.measure(0, 0, 20, what), due[what]);
        x.base(3, 0, 16);
        due("at least", x.measure(0, 0, 20, 4), 13);
        due("at most", x.measure(0, 0, 20, 5), 17);
        due("b is not among them", x.measure(0, 0, 18, 4), NO_VALUE);
        due("high of 18", x.measure(0, 0, 18, 1), 85);
        due("from 20 on", x.measure(0, 20, 40, 2), 16);
        due("low from 5", x.measure(0, 5, 9, 0), 25);
        due("one tick", x.measure(0, 7, 8, 2), 0);
        due("one tick", x.measure(0, 7, 8, 3), 1);
        due("one tick at least", x.measure(0, 7, 8, 4), 0);
        due("one tick at most", x.measure(0, 7, 8, 5), 2);
        due("up to 2000", x.measure(1, 0, 2000, 3), 2000);
        int[][] others = {{-1, 0, 1, 0}, {2, 0, 1, 0}, {0, -1, 1, 0}, {0, 1, 1, 0}, {0, 2, 1, 0}, {0, 0, 2001, 0},
            {0, 0, 1, -1}, {0, 0, 1, 6}, {0, DEEP, FAR, 0}};
        for (int[] p : others) due("others", x.measure(p[0], p[1], p[2], p[3]), NO_VALUE);
        x.part(1, 0, -9, 1, 0, 4);
        due("below 0", x.measure(1, 0, 8, 0), -9);
        due("below 0", x.measure(1, 0, 8, 1), 0);
        due("a fall", x.measure(1, 0, 8, 3), 4);
        due("a fall does not rise", x.measure(1, 0, 8, 2), 0);
        x = new GreenLine();
        x.part(0, 0, 10, 1, 0, 0);
        x.part(0, 0, 80, 1, 0, 1);
        x.part(0, 0, 10, 1, 0, 2);
        x.part(0, 1, -10, 500, 1, 0);
        due("nine tenths are enough", x.measure(0, 0, 3, 2), 0);
        x.clear(0);
        int[] steps = {10, 40, 40, 10};
        for (int k = 0; k < 4; k++) x.part(0, 0, steps[k], 1, 0, k + 1);
        due("from just one tenth to just nine tenths", x.measure(0, 0, 5, 2), 2);
        x.clear(0);
        for (int k = 0; k < 4; k++) x.part(0, 0, steps[k], 1, 0, 2 * k + 1);
        due("not by every second tick", x.measure(0, 0, 9, 2), 4);
        x.part(1, 0, 100, 1, 0, 7);
        x.part(1, 0, 900, 1, 0, 10);
        due("from an odd tick to an even one", x.measure(1, 0, 20, 2), 3);
        due("from 10 on: 90 is not nine tenths of it", x.measure(0, 1, 9, 2), 4);
        x.part(0, 0, -500, 1, 0, 6);
        due("low is not of b", x.measure(0, 0, 6, 0), 0);
        due("low is", x.measure(0, 0, 7, 0), -410);
    }

    private static void parting() {
        promise = "24 parting";
        GreenLine x = new GreenLine();
        x.part(0, 0, 50, 1, 0, 0);
        x.part(2, 0, 50, 1, 0, 20);
        x.channel(0, 3, 10, 0);
        due("each column", x.parting(0, 1, 20, 0), 1);
        due("two dots each", x.parting(0, 1, 20, 1), 40);
        due("a slower pace", x.parting(1, 2, 21, 0), 2);
        due("a slower pace", x.parting(1, 2, 21, 1), 2);
        due("alike: the least", x.parting(2, 2, 21, 0), 1);
        due("alike: no dots", x.parting(2, 2, 21, 1), 0);
        due("pace is as it was", x.about(2), 10);
        due("signal is as it was", x.about(10), 3);
        x.parting(1, 2, 21, 0);
        due("out is as it was", x.out(0, 20), 0);
        x.base(10, 0, 1);
        due("lit by 1 is enough", x.parting(1, 2, 21, 0), 2);
        x.part(3, 0, 50, 1, 0, 380);
        x.base(10, 0, 16);
        due("the slowest pace", x.parting(3, 1, 381, 0), 20);
        due("the slowest pace", x.parting(3, 1, 381, 1), 2);
        int[][] others = {{-1, 0, 1, 0}, {4, 0, 1, 0}, {0, -1, 1, 0}, {0, 4, 1, 0}, {0, 0, 0, 0}, {0, 0, 2001, 0},
            {0, 0, 1, -1}, {0, 0, 1, 2}};
        for (int[] p : others) due("others", x.parting(p[0], p[1], p[2], p[3]), NONE);
    }

    private static void image() {
        promise = "25 image";
        GreenLine x = new GreenLine();
        due("no texts", x.image(), 0);
        Tape.tell(x, "hold 3;");
        due("one text", x.image(), 1);
        x.part(1, 0, 5, 1, 0, 0);
        x.back();
        due("a part behind it is gone", x.about(21), 0);
        x.part(1, 0, 5, 1, 0, 0);
        x.image();
        x.clear(1);
        x.part(1, 0, 6, 1, 0, 0);
        due("it is another", x.out(1, 0), 6);
        x.back();
        due("the later image", x.out(1, 0), 5);
    }

    private static void back() {
        promise = "26 back";
        GreenLine x = new GreenLine();
        Tape.tell(x, "begin tick>3;");
        x.by(0);
        x.part(0, 1, 30, 4, 2, 1);
        x.probe(0, 2, 1, 16);
        x.probe(1, 1, 1, 1);
        x.channel(1, 0, 5, -4);
        x.base(2, 3, 4);
        x.mode(2, 6);
        x.photo(2, 9);
        x.image();
        int[] kept = new int[24];
        for (int what = 0; what < 24; what++) kept[what] = x.about(what);
        int out = x.out(1, 9);
        for (int round = 0; round < 2; round++) {
            Tape.tell(x, "begin tick>30;");
            x.by(1);
            x.clear(0);
            x.part(2, 0, 1, 1, 0, 0);
            x.probe(0, 1, 1, 16);
            x.probe(1, 3, 1, 2);
            x.channel(0, 3, 7, 7);
            x.channel(1, 3, 8, 8);
            x.base(9, 9, 9);
            x.mode(3, 9);
            x.photo(2, 10);
            due("texts", x.back(), 1);
            for (int what = 0; what < 24; what++) due("about " + what, x.about(what), kept[what]);
            due("out 0", x.out(0, 1), 60);
            due("out 1", x.out(1, 9), out);
            due("a text behind it is gone", x.by(1), false);
            due("its text", x.swept(10, 0), 7);
        }
        x.base(1, 0, 16);
        due("the photograph", x.settings(1, 999, NONE), 0);
        x.photo(2, 0);
        due("the photograph", x.settings(1, 999, NONE), 160);
        x.photo(0, 1);
        due("another photograph", x.settings(1, 999, NONE), 0);
        x.back();
        x.base(1, 0, 16);
        x.photo(2, 0);
        due("of one column", x.settings(1, 999, NONE), 160);
        Tape.tell(x, "hold 10000;");
        Tape.feed(x, "hold");
        x.back();
        due("the tape stays as it is", x.about(7), 20);
        due("the latest fault too", x.fault(0), 2);
        due("the latest fault too", x.fault(1), 5);
        x.end(0);
        due("a text told anew", Tape.tell(x, "hold 4;"), 1);
    }

    private static void about() {
        promise = "27 about";
        GreenLine x = new GreenLine();
        Tape.tell(x, "hold 3;");
        Tape.tell(x, "hold 4;");
        x.by(1);
        x.base(11, 12, 13);
        x.mode(2, 14);
        Tape.feed(x, "");
        x.channel(0, 2, 21, -3);
        x.channel(1, 3, 22, 4);
        x.part(0, 0, 1, 1, 1, 1);
        x.part(3, 0, 1, 1, 1, 1);
        x.part(3, 0, 1, 1, 1, 1);
        int[] due = {2, 1, 11, 12, 13, 2, 14, 20, NONE, NONE, 2, 3, 21, 22, -3, 4, NONE, NONE, NONE, NONE, 1, 0, 0, 2,
            NONE};
        for (int what = 0; what < due.length; what++) due("about(" + what + ")", x.about(what), due[what]);
        due("below 0", x.about(-1), NONE);
        due("far", x.about(FAR), NONE);
        due("deep", x.about(DEEP), NONE);
    }
}
