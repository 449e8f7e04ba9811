/** The bounds that the document names of a new object, of the image and of what an object tells about itself. */
final class ObjectBounds {

    private static final int NONE = Bounds.NONE;

    private ObjectBounds() {
    }

    static void constants() {
        Bounds.sentence(1, "The constants: `NONE = -1`: None.");
        Bounds.due("NONE", GreenLine.NONE, -1);
    }

    static void lastCall() {
        Bounds.sentence(1, "An object is used for at most 512 calls after it has been made;"
                + " what later calls answer is free.");
        GreenLine x = new GreenLine();
        x.part(0, 0, 5, 1, 0, 7);
        for (int k = 0; k < 509; k++) x.swept(2000, k % 11 - 1);
        Bounds.due("the 511th call", x.out(0, 6), 0);
        Bounds.due("the 512th call", x.out(0, 7), 5);
        x = new GreenLine();
        for (int k = 0; k < 511; k++) x.feed(k, k, k, k, k);
        Bounds.due("the 512th call", x.about(7), 300);
        x = Bounds.busy();
        for (int k = 0; k < 400; k++) x.settings(2000, 1, NONE);
        Bounds.due("behind 400 dear ones", x.about(0), 2);
    }

    static void newObject() {
        Bounds.sentence(1, "No PARTS, TEXTS; THE IMAGE is this.");
        GreenLine x = new GreenLine();
        for (int signal = 0; signal < 4; signal++) {
            Bounds.due("parts of " + signal, x.about(20 + signal), 0);
            Bounds.due("raw of " + signal, x.raw(signal, 0), 0);
            Bounds.due("raw of " + signal, x.raw(signal, 9999), 0);
        }
        Bounds.due("texts", x.about(0), 0);
        for (int text = 0; text < 4; text++) Bounds.due("no text " + text, x.by(text), false);
        Bounds.due("the tape", x.about(7), 0);
        Bounds.due("the tape", x.end(1), NONE);
        int[] first = about(x);
        GreenLine y = new GreenLine();
        Tape.tell(y, "begin tick>5;");
        y.by(0);
        y.part(0, 0, 50, 1, 0, 0);
        y.part(3, 0, 50, 1, 0, 0);
        y.probe(0, 2, 1, 3);
        y.probe(1, 2, 1, 3);
        y.channel(0, 3, 7, 3);
        y.channel(1, 3, 7, 3);
        y.base(3, 3, 3);
        y.mode(3, 3);
        y.photo(3, 3);
        Bounds.due("back to the new object", y.back(), 0);
        int[] again = about(y);
        for (int what = 0; what < first.length; what++) Bounds.due("about " + what, again[what], first[what]);
        Bounds.due("no text", y.by(0), false);
        y.part(0, 0, 50, 1, 0, 0);
        Bounds.due("its probe is as at first", y.out(0, 0), 50);
        Bounds.due("its photograph too", y.settings(1, 17, NONE), 160);
        Bounds.due("it sweeps at once", y.swept(1, 0), 0);
    }

    private static int[] about(GreenLine x) {
        int[] row = new int[24];
        for (int what = 0; what < row.length; what++) row[what] = x.about(what);
        return row;
    }

    static void whatTheImageHolds() {
        Bounds.sentence(26, "AN IMAGE: all as it is, but the tape and the latest FAULT;");
        GreenLine x = Bounds.busy();
        x.image();
        GreenLine y = Bounds.busy();
        y.image();
        Tape.tell(x, "");
        x.clear(0);
        x.part(3, 0, 1, 1, 0, 0);
        x.probe(0, 1, 1, 1);
        x.probe(1, 1, 1, 1);
        x.channel(0, 3, 1, 1);
        x.channel(1, 3, 1, 1);
        x.base(1, 1, 1);
        x.mode(3, 1);
        x.by(NONE);
        x.shoot(9, 1);
        x.back();
        Tape.tell(y, "");
        Bounds.due("texts", y.back(), 2);
        // Both have an empty tape now, and no fault, as that is not the image's.
        int[] now = Bounds.view(x);
        int[] due = Bounds.view(y);
        for (int k = 0; k < due.length; k++) Bounds.due("answer " + k, now[k], due[k]);
        x = new GreenLine();
        Tape.tell(x, "hold 10000;");
        x.image();
        Tape.feed(x, "hold 5;");
        Tape.feed(x, "");
        Bounds.due("back", x.back(), 0);
        Bounds.due("the tape is as it is", x.about(7), 40);
        Bounds.due("the fault is as it is", x.fault(0), 2);
        x.text();
        Bounds.due("back", x.back(), 0);
        Bounds.due("the tape is empty as it is", x.about(7), 0);
        Bounds.due("the latest fault is as it is", x.fault(0), 0);
        Bounds.due("its place too", x.fault(1), NONE);
    }

    static void textsBehindTheImage() {
        Bounds.sentence(26, "TEXTS told behind it are gone behind going back.");
        for (int ahead = 0; ahead <= 4; ahead++) {
            GreenLine x = new GreenLine();
            for (int k = 0; k < ahead; k++) Tape.tell(x, "begin tick=" + k + ";");
            Bounds.due("image of " + ahead, x.image(), ahead);
            for (int k = ahead; k < 4; k++) Bounds.due("text", Tape.tell(x, "begin tick=9;"), k);
            x.by(3);
            Bounds.due("back to " + ahead, x.back(), ahead);
            Bounds.due("the text told", x.about(1), NONE);
            for (int k = 0; k < 4; k++) {
                Bounds.due("text " + k + " of " + ahead, x.by(k), k < ahead);
                if (k < ahead) Bounds.due("its trigger", x.swept(20, 0), k);
            }
            if (ahead < 4) Bounds.due("the next text", Tape.tell(x, "begin tick=15;"), ahead);
            else Bounds.due("no next text", Tape.tell(x, "begin tick=15;"), NONE);
            x.by(ahead);
            Bounds.due("its trigger", x.swept(20, 0), ahead < 4 ? 15 : 3);
            Bounds.due("back again", x.back(), ahead);
            Bounds.due("gone", x.by(ahead), false);
        }
    }

    static void imageAnswers() {
        Bounds.sentence(25, "THE IMAGE is as all is now: how many TEXTS there are.");
        GreenLine x = new GreenLine();
        Bounds.due("of none", x.image(), 0);
        x.base(1, 1, 1);
        for (int k = 1; k <= 4; k++) {
            x.text();
            Bounds.due("of " + k, x.image(), k);
            Bounds.due("at once again", x.image(), k);
        }
        x.base(2, 2, 2);
        x.back();
        Bounds.due("the pace of the last image", x.about(2), 1);
        x.base(3, 3, 3);
        x.image();
        x.base(4, 4, 4);
        x.back();
        Bounds.due("an image of what came from an image", x.about(2), 3);
        Bounds.due("texts", x.about(0), 4);
        // Six parts in the image, none now, and the other way round.
        x = new GreenLine();
        for (int k = 0; k < 6; k++) x.part(0, 0, 1, 1, 0, 0);
        x.image();
        x.clear(0);
        x.back();
        Bounds.due("six parts again", x.about(20), 6);
        Bounds.due("raw", x.raw(0, 0), 6);
        x.clear(0);
        x.image();
        for (int k = 0; k < 6; k++) x.part(0, 0, 1, 1, 0, 0);
        x.back();
        Bounds.due("none again", x.about(20), 0);
        Bounds.due("raw", x.raw(0, 0), 0);
    }

    static void backAnswers() {
        Bounds.sentence(26, "All is as at THE IMAGE again (it stays): how many TEXTS there are.");
        GreenLine x = new GreenLine();
        Bounds.due("ahead of any image", x.back(), 0);
        Bounds.due("once more", x.back(), 0);
        x.part(1, 0, 9, 1, 0, 0);
        x.text();
        Bounds.due("image", x.image(), 1);
        for (int k = 0; k < 3; k++) {
            x.part(1, 0, 9, 1, 0, 0);
            x.text();
            Bounds.due("out", x.out(1, 0), 18);
            Bounds.due("back", x.back(), 1);
            Bounds.due("out", x.out(1, 0), 9);
            Bounds.due("parts", x.about(21), 1);
            Bounds.due("texts", x.about(0), 1);
        }
    }

    static void aboutAnswers() {
        Bounds.sentence(27, "0 TEXTS, 1 THE TEXT (NONE), 2 PACE, 3 DELAY, 4 FADE, 5 MODE, 6 CHOP, 7 bytes of the tape,"
                + " 10 + channel: its SIGNAL, 12 + channel: GAIN, 14 + channel: POSITION, 20 + signal: PARTS."
                + " NONE for others.");
        GreenLine x = new GreenLine();
        int[] least = {0, NONE, 1, 0, 0, 0, 1, 0, NONE, NONE, 0, 0, 1, 1, -15, -15, NONE, NONE, NONE, NONE, 0, 0, 0, 0,
            NONE};
        x.base(1, 0, 0);
        x.mode(0, 1);
        x.channel(0, 0, 1, -15);
        x.channel(1, 0, 1, -15);
        for (int what = 0; what < least.length; what++) Bounds.due("least " + what, x.about(what), least[what]);
        int[] greatest = {4, 3, 50, 999, 16, 3, 50, 300, NONE, NONE, 3, 3, 999, 999, 15, 15, NONE, NONE, NONE, NONE,
            6, 6, 6, 6, NONE};
        x.base(50, 999, 16);
        x.mode(3, 50);
        x.channel(0, 3, 999, 15);
        x.channel(1, 3, 999, 15);
        for (int k = 0; k < 4; k++) x.text();
        x.by(3);
        for (int k = 0; k < 15; k++) Tape.feed(x, "");
        for (int k = 0; k < 24; k++) x.part(k / 6, 0, 1, 1, 0, 0);
        for (int what = 0; what < greatest.length; what++) {
            Bounds.due("greatest " + what, x.about(what), greatest[what]);
        }
        Bounds.refuses("about", (y, what) -> y.about(what), NONE,
                -1, 8, 9, 16, 17, 18, 19, 24, 25, 100, Bounds.DEEP, Bounds.FAR);
    }
}
