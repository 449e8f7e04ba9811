import java.util.ArrayList;
import java.util.Arrays;
import java.util.List;
import java.util.TreeSet;

/** What the tests of bounds share: the sentence that is tested, the answers that are due, and what stays as it was. */
final class Bounds {

    static final int NONE = -1;
    static final int NO_VALUE = -1000000;
    static final int FAR = Integer.MAX_VALUE;
    static final int DEEP = Integer.MIN_VALUE;

    static final List<String> sentences = new ArrayList<>();
    static final TreeSet<Integer> promises = new TreeSet<>();
    static int right = 0;
    static int wrong = 0;
    private static String place = "";

    private static int[] busyView = null;

    private Bounds() {
    }

    interface Call {
        long on(GreenLine x);
    }

    interface With {
        long on(GreenLine x, int value);
    }

    /** Names what the answers that follow are due by. */
    static void sentence(int promise, String words) {
        promises.add(promise);
        sentences.add(words);
        place = "promise " + promise + ", \"" + words + "\"";
    }

    static void due(String call, long got, long want) {
        if (got == want) {
            right++;
        } else {
            wrong++;
            System.out.println(place + ": " + call + " answered " + got + ", due is " + want);
        }
    }

    static void due(String call, boolean got, boolean want) {
        due(call, number(got), number(want));
    }

    /** What is so of the tests themselves, whatever the program answers. */
    static void fact(String what, boolean is) {
        place = "tests";
        due(what, is, true);
    }

    static long number(boolean is) {
        return is ? 1 : 0;
    }

    /** Each of these values is answered so by a new object. */
    static void takes(String call, With with, long want, int... values) {
        for (int value : values) due(call + " with " + value, with.on(new GreenLine(), value), want);
    }

    /** Each of these values is answered so, and all that can be asked stays as it was. */
    static void refuses(String call, With with, long want, int... values) {
        for (int value : values) stays(call + " with " + value, x -> with.on(x, value), want);
    }

    /** A call is answered so, and all that can be asked stays as it was. */
    static void stays(String call, Call asked, long want) {
        due(call, asked.on(busy()), want);
        changesNothing(call, asked);
    }

    static void changesNothing(String call, Call asked) {
        if (busyView == null) busyView = view(busy());
        GreenLine x = busy();
        asked.on(x);
        int[] now = view(x);
        for (int k = 0; k < now.length; k++) due(call + ", then answer " + k, now[k], busyView[k]);
    }

    /** An object in which nothing is as at first: 2 TEXTS, 20 bytes on the tape, a FAULT, an IMAGE of another state. */
    static GreenLine busy() {
        GreenLine x = new GreenLine();
        x.part(0, 0, 3, 1, 0, 0);
        x.part(3, 0, 5, 1, 0, 7);
        Tape.tell(x, "begin now>20;hold 3;");
        x.by(0);
        x.base(4, 2, 3);
        x.photo(1, 5);
        x.image();
        x.part(0, 1, 60, 12, 5, 2);
        x.part(0, 2, -30, 7, 0, 4);
        x.part(1, 0, -25, 1, 0, 3);
        x.part(2, 1, 9, 5, 2, 0);
        x.part(0, 1, 40, 9, 1, 1);
        x.probe(0, 3, 2, 9);
        x.probe(1, 2, 3, 12);
        x.channel(0, 0, 20, -1);
        x.channel(1, 1, 7, 2);
        Tape.tell(x, "begin now>ahead and line<30;hold 2;");
        x.by(1);
        x.base(3, 1, 11);
        x.mode(1, 4);
        x.shoot(150, 5);
        Tape.tell(x, "hold 10000;");
        Tape.feed(x, "hold 5;");
        return x;
    }

    /** What an object answers to all that it can be asked; it is used up by this. */
    static int[] view(GreenLine x) {
        List<Integer> row = new ArrayList<>();
        row.add(x.fault(0));
        row.add(x.fault(1));
        viewOfState(x, row);
        // What is on the tape, and how many TEXTS there are.
        row.add(x.text());
        row.add(x.by(2) ? 1 : 0);
        row.add(x.swept(150, NONE));
        row.add(x.back());
        viewOfState(x, row);
        int[] answers = new int[row.size()];
        for (int k = 0; k < answers.length; k++) answers[k] = row.get(k);
        return answers;
    }

    private static void viewOfState(GreenLine x, List<Integer> row) {
        for (int what = 0; what < 24; what++) row.add(x.about(what));
        for (int signal = 0; signal < 4; signal++) {
            for (int tick : new int[] {0, 5, 9, 12}) row.add(x.raw(signal, tick));
            row.add(x.caught(signal, 60));
        }
        for (int channel = 0; channel < 2; channel++) {
            for (int tick : new int[] {0, 4, 40, 99}) row.add(x.out(channel, tick));
            row.add(x.measure(channel, 0, 90, 3));
            row.add(x.otherwise(channel, 0, NONE));
        }
        for (int i = NONE; i < 3; i++) row.add(x.swept(150, i));
        for (int column = NONE; column < 20; column++) row.add(x.lit(150, 3, column));
        row.add(x.glow(150, 0, 8));
        row.add(x.settings(150, 5, NONE));
        row.add(x.settings(150, 5, 0));
        row.add(x.settings(1, 999, NONE));
        row.add(x.parting(0, 1, 50, 1));
    }

    // ---- texts

    /** A new object with a PACE of 1, by this text. */
    static GreenLine told(String text) {
        GreenLine x = new GreenLine();
        x.base(1, 0, 16);
        due("text \"" + shown(text) + "\"", Tape.tell(x, text), 0);
        x.by(0);
        return x;
    }

    /** If this is so at TICK 0, where all words are 0. */
    static void so(String ask, boolean want) {
        due("\"" + ask + "\"", told("begin " + ask + ";").swept(1, NONE), number(want));
    }

    static void sound(String text) {
        GreenLine x = new GreenLine();
        due("\"" + shown(text) + "\" is a text", Tape.tell(x, text), 0);
        due("\"" + shown(text) + "\" has no fault", x.fault(0), 0);
        due("\"" + shown(text) + "\" has no place", x.fault(1), NONE);
    }

    static void faulty(String text, int fault, int place) {
        GreenLine x = new GreenLine();
        due("\"" + shown(text) + "\" is no text", Tape.tell(x, text), NONE);
        due("\"" + shown(text) + "\" has the fault", x.fault(0), fault);
        due("\"" + shown(text) + "\" at the place", x.fault(1), place);
        due("\"" + shown(text) + "\": no text", x.about(0), 0);
    }

    private static String shown(String text) {
        StringBuilder shown = new StringBuilder();
        for (char sign : text.toCharArray()) {
            shown.append(sign < 32 || sign > 126 ? "[" + (int) sign + "]" : "" + sign);
        }
        return shown.toString();
    }

    // ---- signals

    /** A signal that has this height from a TICK on, in as many steps as it takes. */
    static void step(GreenLine x, int signal, int height, int from) {
        int left = height;
        for (int k = 0; k < 6 && left != 0; k++) {
            int some = Math.max(-999, Math.min(999, left));
            x.part(signal, 0, some, 1, 0, from);
            left -= some;
        }
    }

    /** A new object whose CHANNEL 0 has this OUT at each TICK. */
    static GreenLine flat(int out, int gain, int position) {
        GreenLine x = new GreenLine();
        step(x, 0, out, 0);
        x.channel(0, 0, gain, position);
        return x;
    }

    static int[] each(int least, int most) {
        int[] row = new int[most - least + 1];
        Arrays.setAll(row, k -> least + k);
        return row;
    }
}
