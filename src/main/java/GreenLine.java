/** A scope: signals, probes, sweeps begun by texts, glow that fades, and an image to go back to. */
public final class GreenLine {

    public static final int NONE = -1;

    private static final int NO_VALUE = -1000000;
    private static final int BOUND = 1000000;

    private static final int SIGNALS = 4;
    private static final int CHANNELS = 2;
    private static final int MOST_PARTS = 6;
    private static final int MOST_TEXTS = 4;
    private static final int MOST_BYTES = 300;
    private static final int FED_NUMBERS = 5;
    private static final int TICKS = 2000;
    private static final int RAW_TICKS = 10000;
    private static final int COLUMNS = 20;
    private static final int ROWS = 16;
    private static final int MOST_GLOW = 999;
    private static final int DRAWN_GLOW = 16;
    private static final int LAST_TRIED_PACE = 20;
    private static final int LAST_ELSE_PERIOD = 24;
    private static final int LAST_ELSE_TICK = 1000;
    private static final int MOST_CLAUSES = 10;
    private static final int MOST_OPEN = 8;
    private static final int MOST_NUMBER = 9999;
    private static final int MOST_HOLD = 9999;
    private static final int LINE_TICKS = 40;

    private static final int[] GAINS = {1, 2, 5, 10, 20, 50, 100, 200};

    private static final int STEP = 0;
    private static final int SQUARE = 1;
    private static final int SAW = 2;

    private static final int ALTERNATE = 1;
    private static final int CHOPPED = 2;
    private static final int AGAINST = 3;

    // Signs are below 0, so that a row of signs can hold a number as itself.
    private static final int NOW = -11;
    private static final int AHEAD = -12;
    private static final int OTHER = -13;
    private static final int TICK = -14;
    private static final int LINE = -15;
    private static final int SWEEPS = -16;
    private static final int SINCE = -17;
    private static final int PLUS = -21;
    private static final int MINUS = -22;
    private static final int TIMES = -23;
    private static final int OVER = -24;
    private static final int NEGATE = -25;
    private static final int LESS = -31;
    private static final int AT_MOST = -32;
    private static final int MORE = -33;
    private static final int AT_LEAST = -34;
    private static final int EQUAL = -35;
    private static final int UNLIKE = -36;
    private static final int NOT = -41;
    private static final int AND = -42;
    private static final int OR = -43;
    private static final int OPEN = -51;
    private static final int CLOSE = -52;
    private static final int SEMICOLON = -53;
    private static final int HOLD = -54;
    private static final int BEGIN = -55;
    private static final int NUMBER = -56;
    private static final int STOP = -57;
    private static final int NO_TOKEN = -58;

    // How strongly a sign binds: what is stronger is done first, what is open binds nothing.
    private static final int BINDS_OR = 1;
    private static final int BINDS_AND = 2;
    private static final int BINDS_NOT = 3;
    private static final int BINDS_RELATION = 4;
    private static final int BINDS_SUM = 5;
    private static final int BINDS_PRODUCT = 6;
    private static final int BINDS_NEGATE = 7;

    private static final int FAULT_PLACE = 1;
    private static final int FAULT_NUMBER = 2;
    private static final int FAULT_OPEN = 3;
    private static final int FAULT_HOLD = 4;
    private static final int FAULT_CLAUSES = 5;

    private final Beam beam = new Beam();
    private final Setup setup = beam.setup;
    private final Setup saved = new Setup();
    private final Reader reader = new Reader();
    private final int[] tape = reader.scanner.bytes;
    private final Screen screen = new Screen();
    private final Part guess = new Part();
    private final int[] samples = new int[COLUMNS];
    private final int[] earlier = new int[COLUMNS];
    private int tapeLength = 0;
    private int latestFault = NONE;
    private int latestPlace = NONE;

    public GreenLine() {
    }

    // ---- signals, probes, channels

    public int part(int signal, int kind, int height, int period, int width, int from) {
        boolean sound = isSignal(signal) && within(kind, STEP, SAW) && within(height, -999, 999)
                && within(period, 1, 500) && within(width, 0, 500) && within(from, 0, 1999);
        if (!sound || setup.signals[signal].count >= MOST_PARTS) {
            return NONE;
        }
        setup.signals[signal].add(kind, height, period, width, from);
        beam.forget();
        return setup.signals[signal].count;
    }

    public int clear(int signal) {
        if (!isSignal(signal)) {
            return NONE;
        }
        int had = setup.signals[signal].count;
        setup.signals[signal].count = 0;
        beam.forget();
        return had;
    }

    public int raw(int signal, int tick) {
        if (!isSignal(signal) || !within(tick, 0, RAW_TICKS - 1)) {
            return NO_VALUE;
        }
        return setup.signals[signal].heightAt(tick);
    }

    public boolean probe(int channel, int up, int down, int slow) {
        if (!isChannel(channel) || !within(up, 1, 20) || !within(down, 1, 20) || !within(slow, 1, 16)) {
            return false;
        }
        setup.channels[channel].setProbe(up, down, slow);
        beam.forget();
        return true;
    }

    public boolean channel(int channel, int signal, int gain, int position) {
        if (!isChannel(channel) || !isSignal(signal) || !within(gain, 1, 999) || !within(position, -15, 15)) {
            return false;
        }
        setup.channels[channel].setView(signal, gain, position);
        beam.forget();
        return true;
    }

    public int out(int channel, int tick) {
        if (!isChannel(channel) || !within(tick, 0, TICKS - 1)) {
            return NO_VALUE;
        }
        return beam.outAt(channel, tick);
    }

    public boolean base(int pace, int delay, int fade) {
        if (!within(pace, 1, 50) || !within(delay, 0, 999) || !within(fade, 0, 16)) {
            return false;
        }
        setup.pace = pace;
        setup.delay = delay;
        setup.fade = fade;
        return true;
    }

    public boolean mode(int mode, int chop) {
        if (!within(mode, 0, AGAINST) || !within(chop, 1, 50)) {
            return false;
        }
        setup.mode = mode;
        setup.chop = chop;
        return true;
    }

    // ---- texts

    public int feed(int a, int b, int c, int d, int e) {
        if (tapeLength > MOST_BYTES - 4 * FED_NUMBERS) {
            return NONE;
        }
        feedNumber(a);
        feedNumber(b);
        feedNumber(c);
        feedNumber(d);
        feedNumber(e);
        return tapeLength;
    }

    private void feedNumber(int number) {
        for (int shift = 24; shift >= 0; shift -= 8) {
            if (within(tapeLength, 0, tape.length - 1)) {
                tape[tapeLength] = number >>> shift & 255;
                tapeLength++;
            }
        }
    }

    public int end(int n) {
        if (!within(n, 0, tapeLength)) {
            return NONE;
        }
        tapeLength = n;
        return n;
    }

    public int text() {
        if (!within(setup.texts, 0, MOST_TEXTS - 1)) {
            return NONE;
        }
        // The slot behind the last text is free: what a faulty text leaves there is never asked.
        reader.read(beam.programs[setup.texts], tapeLength);
        tapeLength = 0;
        latestFault = reader.fault;
        latestPlace = reader.place;
        if (reader.fault != 0) {
            return NONE;
        }
        setup.texts++;
        return setup.texts - 1;
    }

    public int fault(int what) {
        if (what == 0) {
            return latestFault;
        }
        return what == 1 ? latestPlace : NONE;
    }

    public boolean by(int text) {
        if (!within(text, NONE, setup.texts - 1)) {
            return false;
        }
        setup.text = text;
        return true;
    }

    // ---- sweeps and glow

    public int swept(int t, int i) {
        if (!isSpan(t) || i < NONE) {
            return NONE;
        }
        beam.restart();
        for (int k = 0; k < t && beam.next(t); k++) {
            if (k == i) {
                return beam.begin;
            }
        }
        return i == NONE ? beam.sweeps : NONE;
    }

    public int glow(int t, int column, int row) {
        if (!isSpan(t) || !within(column, 0, COLUMNS - 1) || !within(row, 0, ROWS - 1)) {
            return NONE;
        }
        beam.draw(screen, t);
        return screen.glowOf(column, row);
    }

    public int lit(int t, int n, int column) {
        if (!isSpan(t) || !within(n, 1, MOST_GLOW) || !within(column, NONE, COLUMNS - 1)) {
            return NONE;
        }
        beam.draw(screen, t);
        return column == NONE ? screen.dots(n) : screen.bits(column, n);
    }

    // ---- what else the samples can be

    public int otherwise(int channel, int tick, int i) {
        if (!isChannel(channel) || !within(tick, 0, LAST_ELSE_TICK) || i < NONE) {
            return NONE;
        }
        int greatest = takeSamples(channel, tick);
        if (greatest <= 0) {
            return i == NONE ? 0 : NONE;
        }
        int found = 0;
        for (int period = 2; period <= LAST_ELSE_PERIOD; period++) {
            for (int width = 1; width < period; width++) {
                for (int from = 0; from < period; from++) {
                    guess.set(SQUARE, greatest, period, width, from);
                    if (guessFits(tick)) {
                        if (found == i) {
                            return 10000 * period + 100 * width + from;
                        }
                        found++;
                    }
                }
            }
        }
        return i == NONE ? found : NONE;
    }

    private int takeSamples(int channel, int tick) {
        int greatest = beam.outAt(channel, tick);
        for (int k = 0; k < samples.length; k++) {
            samples[k] = beam.outAt(channel, tick + k * setup.pace);
            greatest = Math.max(greatest, samples[k]);
        }
        return greatest;
    }

    private boolean guessFits(int tick) {
        for (int k = 0; k < samples.length; k++) {
            if (guess.heightAt(tick + k * setup.pace) != samples[k]) {
                return false;
            }
        }
        return true;
    }

    public int caught(int signal, int t) {
        if (!isSignal(signal) || !isSpan(t)) {
            return NONE;
        }
        int last = setup.signals[signal].count - 1;
        if (!within(last, 0, MOST_PARTS - 1) || setup.signals[signal].parts[last].kind != SQUARE) {
            return NONE;
        }
        Part spike = setup.signals[signal].parts[last];
        int kept = spike.from;
        int count = 0;
        for (int from = 0; from < spike.period; from++) {
            spike.from = from;
            beam.forget();
            if (beam.catches(signal, spike, t)) {
                count++;
            }
        }
        spike.from = kept;
        beam.forget();
        return count;
    }

    // ---- the photograph and its settings

    public boolean photo(int column, int rows) {
        if (!within(column, 0, COLUMNS - 1) || !within(rows, 0, 65535)) {
            return false;
        }
        setup.photo[column] = rows;
        return true;
    }

    public int shoot(int t, int n) {
        if (!isSpan(t) || !within(n, 1, MOST_GLOW)) {
            return NONE;
        }
        beam.draw(screen, t);
        copyBits(n, setup.photo);
        return screen.dots(n);
    }

    private void copyBits(int n, int[] into) {
        for (int column = 0; column < into.length; column++) {
            into[column] = screen.bits(column, n);
        }
    }

    public int settings(int t, int n, int i) {
        if (!isSpan(t) || !within(n, 1, MOST_GLOW) || i < NONE) {
            return NONE;
        }
        int keptPace = setup.pace;
        int keptGain = setup.channels[0].gain;
        int found = 0;
        int answer = NONE;
        for (int pace = 1; pace <= LAST_TRIED_PACE; pace++) {
            for (int g = 0; g < GAINS.length; g++) {
                setup.pace = pace;
                setup.channels[0].gain = GAINS[g];
                beam.draw(screen, t);
                if (unlike(setup.photo, n) == 0) {
                    if (found == i) {
                        answer = 1000 * pace + GAINS[g];
                    }
                    found++;
                }
            }
        }
        setup.pace = keptPace;
        setup.channels[0].gain = keptGain;
        return i == NONE ? found : answer;
    }

    /** How many dots are lit just on the screen or just in these rows. */
    private int unlike(int[] rows, int n) {
        int count = 0;
        for (int column = 0; column < rows.length; column++) {
            count += Integer.bitCount(rows[column] ^ screen.bits(column, n));
        }
        return count;
    }

    // ---- measures

    public int measure(int channel, int a, int b, int what) {
        if (!isChannel(channel) || a < 0 || a >= b || b > TICKS) {
            return NO_VALUE;
        }
        int low = lowest(channel, a, b);
        int high = highest(channel, a, b);
        switch (what) {
            case 0:
                return low;
            case 1:
                return high;
            case 2:
                return rise(channel, a, b, 1, low, high);
            case 3:
                return wide(channel, a, b, low + high);
            case 4:
                return leastRise(rise(channel, a, b, setup.pace, low, high));
            case 5:
                return greatestRise(rise(channel, a, b, setup.pace, low, high));
            default:
                return NO_VALUE;
        }
    }

    private int lowest(int channel, int a, int b) {
        int low = beam.outAt(channel, a);
        for (int tick = a; tick < b; tick++) {
            low = Math.min(low, beam.outAt(channel, tick));
        }
        return low;
    }

    private int highest(int channel, int a, int b) {
        int high = beam.outAt(channel, a);
        for (int tick = a; tick < b; tick++) {
            high = Math.max(high, beam.outAt(channel, tick));
        }
        return high;
    }

    private int wide(int channel, int a, int b, int lowAndHigh) {
        int count = 0;
        for (int tick = a; tick < b; tick++) {
            if (2 * beam.outAt(channel, tick) >= lowAndHigh) {
                count++;
            }
        }
        return count;
    }

    /** How far the foot and the shoulder of a rise are apart, looked at by this step. */
    private int rise(int channel, int a, int b, int step, int low, int high) {
        int foot = NONE;
        for (int tick = a; tick < b && step > 0; tick += step) {
            int above = 10 * (beam.outAt(channel, tick) - low);
            if (foot == NONE && above >= high - low) {
                foot = tick;
            }
            // What is nine tenths up is one tenth up too, so the foot stands by now.
            if (above >= 9 * (high - low)) {
                return tick - foot;
            }
        }
        return NO_VALUE;
    }

    private int leastRise(int seen) {
        return seen == NO_VALUE ? NO_VALUE : Math.max(0, seen - setup.pace + 1);
    }

    private int greatestRise(int seen) {
        return seen == NO_VALUE ? NO_VALUE : seen + setup.pace - 1;
    }

    public int parting(int one, int other, int t, int what) {
        if (!isSignal(one) || !isSignal(other) || !isSpan(t) || !within(what, 0, 1)) {
            return NONE;
        }
        int keptPace = setup.pace;
        int keptSignal = setup.channels[0].signal;
        int best = NONE;
        int most = NONE;
        for (int pace = 1; pace <= LAST_TRIED_PACE; pace++) {
            setup.pace = pace;
            setup.channels[0].signal = one;
            beam.forget();
            beam.draw(screen, t);
            copyBits(1, earlier);
            setup.channels[0].signal = other;
            beam.forget();
            beam.draw(screen, t);
            int parted = unlike(earlier, 1);
            if (parted > most) {
                most = parted;
                best = pace;
            }
        }
        setup.pace = keptPace;
        setup.channels[0].signal = keptSignal;
        beam.forget();
        return what == 0 ? best : most;
    }

    // ---- the image

    public int image() {
        saved.copyFrom(setup);
        return setup.texts;
    }

    public int back() {
        setup.copyFrom(saved);
        beam.forget();
        return setup.texts;
    }

    public int about(int what) {
        switch (what) {
            case 0:
                return setup.texts;
            case 1:
                return setup.text;
            case 2:
                return setup.pace;
            case 3:
                return setup.delay;
            case 4:
                return setup.fade;
            case 5:
                return setup.mode;
            case 6:
                return setup.chop;
            case 7:
                return tapeLength;
            default:
                return aboutInputs(what);
        }
    }

    private int aboutInputs(int what) {
        if (within(what, 10, 11)) {
            return setup.channels[what - 10].signal;
        }
        if (within(what, 12, 13)) {
            return setup.channels[what - 12].gain;
        }
        if (within(what, 14, 15)) {
            return setup.channels[what - 14].position;
        }
        return within(what, 20, 23) ? setup.signals[what - 20].count : NONE;
    }

    // ---- what arguments can be

    private static boolean within(int value, int least, int most) {
        return least <= value && value <= most;
    }

    private static boolean isSignal(int signal) {
        return within(signal, 0, SIGNALS - 1);
    }

    private static boolean isChannel(int channel) {
        return within(channel, 0, CHANNELS - 1);
    }

    private static boolean isSpan(int t) {
        return within(t, 1, TICKS);
    }

    // ---- inside

    /** One part of a signal. */
    private static final class Part {
        int kind = STEP;
        int height = 0;
        int period = 1;
        int width = 0;
        int from = 0;

        void set(int newKind, int newHeight, int newPeriod, int newWidth, int newFrom) {
            kind = newKind;
            height = newHeight;
            period = newPeriod;
            width = newWidth;
            from = newFrom;
        }

        int phase(int tick) {
            if (period < 1) {
                return 0;
            }
            int left = (tick - from) % period;
            return left < 0 ? left + period : left;
        }

        boolean isOn(int tick) {
            return phase(tick) < width;
        }

        int heightAt(int tick) {
            if (kind == STEP) {
                return tick >= from ? height : 0;
            }
            if (kind == SQUARE) {
                return phase(tick) < width ? height : 0;
            }
            return period < 1 ? 0 : height * phase(tick) / period;
        }
    }

    /** Parts that are heard together. */
    private static final class Signal {
        final Part[] parts = new Part[MOST_PARTS];
        int count = 0;

        Signal() {
            for (int k = 0; k < parts.length; k++) {
                parts[k] = new Part();
            }
        }

        void add(int kind, int height, int period, int width, int from) {
            if (within(count, 0, parts.length - 1)) {
                parts[count].set(kind, height, period, width, from);
                count++;
            }
        }

        int heightAt(int tick) {
            int sum = 0;
            for (int k = 0; k < count && k < parts.length; k++) {
                sum += parts[k].heightAt(tick);
            }
            return sum;
        }

        void copyFrom(Signal other) {
            count = 0;
            for (int k = 0; k < other.count && k < other.parts.length; k++) {
                Part part = other.parts[k];
                add(part.kind, part.height, part.period, part.width, part.from);
            }
        }
    }

    /** A channel with its probe and its place on the screen. */
    private static final class Channel {
        int signal = 0;
        int up = 1;
        int down = 1;
        int slow = 16;
        int gain = 10;
        int position = 0;

        Channel(int firstSignal) {
            signal = firstSignal;
        }

        void setProbe(int newUp, int newDown, int newSlow) {
            up = newUp;
            down = newDown;
            slow = newSlow;
        }

        void setView(int newSignal, int newGain, int newPosition) {
            signal = newSignal;
            gain = newGain;
            position = newPosition;
        }

        void copyFrom(Channel other) {
            setProbe(other.up, other.down, other.slow);
            setView(other.signal, other.gain, other.position);
        }

        /** The out that comes behind the out ahead. */
        int outBehind(int ahead, int raw) {
            int in = down < 1 ? 0 : raw * up / down;
            return ahead + (in - ahead) * slow / 16;
        }

        /** How many dots an out lies from the screen's edge, if 0 lies that many from it. */
        int dotsFrom(int middle, int out) {
            return gain < 1 ? NONE : Math.floorDiv(out, gain) + middle + position;
        }
    }

    /** All that the image holds; of the texts how many there are, as they are only added to. */
    private static final class Setup {
        final Signal[] signals = new Signal[SIGNALS];
        final Channel[] channels = new Channel[CHANNELS];
        final int[] photo = new int[COLUMNS];
        int pace = 10;
        int delay = 0;
        int fade = 16;
        int mode = 0;
        int chop = 1;
        int texts = 0;
        int text = NONE;

        Setup() {
            for (int k = 0; k < signals.length; k++) {
                signals[k] = new Signal();
            }
            for (int k = 0; k < channels.length; k++) {
                channels[k] = new Channel(k);
            }
        }

        void copyFrom(Setup other) {
            for (int k = 0; k < signals.length && k < other.signals.length; k++) {
                signals[k].copyFrom(other.signals[k]);
            }
            for (int k = 0; k < channels.length && k < other.channels.length; k++) {
                channels[k].copyFrom(other.channels[k]);
            }
            for (int k = 0; k < photo.length && k < other.photo.length; k++) {
                photo[k] = other.photo[k];
            }
            pace = other.pace;
            delay = other.delay;
            fade = other.fade;
            mode = other.mode;
            chop = other.chop;
            texts = other.texts;
            text = other.text;
        }
    }

    /** A text that was read: rows of signs, each behind what it works on. */
    private static final class Program {
        // All begin clauses are one row: they are joined by OR.
        final int[] begins = new int[MOST_BYTES];
        final int[] holds = new int[MOST_BYTES];
        int beginLength = 0;
        int holdLength = 0;

        void empty() {
            beginLength = 0;
            holdLength = 0;
        }

        boolean isEmpty() {
            return beginLength == 0 && holdLength == 0;
        }
    }

    /** Parts bytes into tokens. */
    private static final class Scanner {
        final int[] bytes = new int[MOST_BYTES];
        int length = 0;
        int at = 0;
        int start = 0;
        int sign = STOP;
        int number = 0;

        void restart(int newLength) {
            length = newLength;
            at = 0;
        }

        void next() {
            while (at < length && isBlank(byteAt(at))) {
                at++;
            }
            start = at;
            int first = byteAt(at);
            if (first == NONE) {
                sign = STOP;
            } else if (isLetter(first)) {
                passLetters();
                sign = wordSign();
            } else if (isDigit(first)) {
                readNumber();
                sign = NUMBER;
            } else {
                at++;
                sign = signOf(first);
            }
        }

        int byteAt(int place) {
            return 0 <= place && place < length && place < bytes.length ? bytes[place] : NONE;
        }

        void passLetters() {
            while (at < length && isLetter(byteAt(at))) {
                at++;
            }
        }

        void readNumber() {
            number = 0;
            while (at < length && isDigit(byteAt(at))) {
                // More than the most is enough to know, however many digits come.
                number = Math.min(number * 10 + byteAt(at) - '0', MOST_NUMBER + 1);
                at++;
            }
        }

        int signOf(int first) {
            switch (first) {
                case '<':
                    return passesEqual() ? AT_MOST : LESS;
                case '>':
                    return passesEqual() ? AT_LEAST : MORE;
                case '=':
                    return EQUAL;
                case '#':
                    return UNLIKE;
                case '+':
                    return PLUS;
                case '-':
                    return MINUS;
                case '*':
                    return TIMES;
                case '/':
                    return OVER;
                case '(':
                    return OPEN;
                case ')':
                    return CLOSE;
                case ';':
                    return SEMICOLON;
                default:
                    return NO_TOKEN;
            }
        }

        boolean passesEqual() {
            if (byteAt(at) != '=') {
                return false;
            }
            at++;
            return true;
        }

        int wordSign() {
            if (spells("hold")) {
                return HOLD;
            }
            if (spells("begin")) {
                return BEGIN;
            }
            if (spells("or")) {
                return OR;
            }
            if (spells("and")) {
                return AND;
            }
            return spells("not") ? NOT : valueSign();
        }

        int valueSign() {
            if (spells("now")) {
                return NOW;
            }
            if (spells("ahead")) {
                return AHEAD;
            }
            if (spells("other")) {
                return OTHER;
            }
            if (spells("tick")) {
                return TICK;
            }
            if (spells("line")) {
                return LINE;
            }
            if (spells("sweeps")) {
                return SWEEPS;
            }
            return spells("since") ? SINCE : NO_TOKEN;
        }

        boolean spells(String word) {
            if (at - start != word.length()) {
                return false;
            }
            for (int k = 0; k < word.length(); k++) {
                if (byteAt(start + k) != word.charAt(k)) {
                    return false;
                }
            }
            return true;
        }

        static boolean isBlank(int sign) {
            return sign == 32 || sign == 10;
        }

        static boolean isLetter(int sign) {
            return within(sign, 'a', 'z') || within(sign, 'A', 'Z');
        }

        static boolean isDigit(int sign) {
            return within(sign, '0', '9');
        }
    }

    /** Reads a text into a program, token by token, up to its first fault. */
    private static final class Reader {
        final Scanner scanner = new Scanner();
        // Signs that wait for what they work on; OPEN waits for its CLOSE.
        final int[] waiting = new int[MOST_BYTES];
        int waits = 0;
        int opened = 0;
        int brackets = 0;
        int clauses = 0;
        boolean held = false;
        boolean inClause = false;
        boolean inBegin = false;
        boolean wantsOne = false;
        boolean mayNot = false;
        boolean compared = false;
        boolean begun = false;
        boolean ended = false;
        int fault = 0;
        int place = NONE;
        Program program = new Program();

        void read(Program into, int length) {
            scanner.restart(length);
            program = into;
            program.empty();
            clauses = 0;
            held = false;
            inClause = false;
            begun = false;
            ended = false;
            fault = 0;
            place = NONE;
            for (int k = 0; k <= MOST_BYTES && !ended; k++) {
                scanner.next();
                take(scanner.sign);
            }
        }

        void fail(int newFault) {
            fault = newFault;
            place = scanner.start;
            ended = true;
        }

        void take(int sign) {
            if (sign == STOP && !inClause) {
                ended = true;
            } else if (sign == STOP || sign == NO_TOKEN) {
                fail(FAULT_PLACE);
            } else if (!inClause) {
                takeFirst(sign);
            } else if (wantsOne) {
                takeOne(sign);
            } else {
                takeBehindOne(sign);
            }
        }

        void takeFirst(int sign) {
            if (sign != HOLD && sign != BEGIN) {
                fail(FAULT_PLACE);
            } else if (sign == HOLD && held) {
                fail(FAULT_HOLD);
            } else if (clauses >= MOST_CLAUSES) {
                fail(FAULT_CLAUSES);
            } else {
                clauses++;
                held = held || sign == HOLD;
                inClause = true;
                inBegin = sign == BEGIN;
                wantsOne = true;
                mayNot = inBegin;
                compared = false;
                waits = 0;
                opened = 0;
                brackets = 0;
            }
        }

        void takeOne(int sign) {
            if (sign == NUMBER && scanner.number > MOST_NUMBER) {
                fail(FAULT_NUMBER);
            } else if (sign == NUMBER) {
                emit(scanner.number);
                wantsOne = false;
            } else if (within(sign, SINCE, NOW)) {
                emit(sign);
                wantsOne = false;
            } else if (sign == OPEN || sign == MINUS || sign == NOT && mayNot) {
                openUp(sign == MINUS ? NEGATE : sign);
            } else {
                fail(FAULT_PLACE);
            }
        }

        void openUp(int sign) {
            if (opened >= MOST_OPEN) {
                fail(FAULT_OPEN);
                return;
            }
            opened++;
            if (sign == OPEN) {
                brackets++;
            }
            mayNot = sign == NOT;
            await(sign);
        }

        void takeBehindOne(int sign) {
            if (within(sign, OVER, PLUS)) {
                awaitNext(sign);
            } else if (sign == CLOSE && brackets > 0) {
                closeBracket();
            } else if (within(sign, UNLIKE, LESS) && inBegin && brackets == 0 && !compared) {
                awaitNext(sign);
                compared = true;
            } else if ((sign == AND || sign == OR) && brackets == 0 && compared) {
                awaitNext(sign);
                compared = false;
                mayNot = true;
            } else if (sign == SEMICOLON && brackets == 0 && compared == inBegin) {
                endClause();
            } else {
                fail(FAULT_PLACE);
            }
        }

        /** What binds as strongly as this sign or more is done ahead of it: from the left. */
        void awaitNext(int sign) {
            unwind(strength(sign));
            await(sign);
            wantsOne = true;
            mayNot = false;
        }

        void closeBracket() {
            unwind(BINDS_OR);
            waits = Math.max(0, waits - 1);
            opened--;
            brackets--;
        }

        void endClause() {
            unwind(BINDS_OR);
            inClause = false;
            if (inBegin && begun) {
                emit(OR);
            }
            begun = begun || inBegin;
        }

        void await(int sign) {
            if (within(waits, 0, waiting.length - 1)) {
                waiting[waits] = sign;
                waits++;
            }
        }

        void unwind(int least) {
            for (int k = Math.min(waits, waiting.length) - 1; k >= 0; k--) {
                int sign = waiting[k];
                if (strength(sign) < least) {
                    return;
                }
                emit(sign);
                if (sign == NEGATE || sign == NOT) {
                    opened--;
                }
                waits = k;
            }
        }

        void emit(int sign) {
            if (inBegin && program.beginLength < program.begins.length) {
                program.begins[program.beginLength] = sign;
                program.beginLength++;
            }
            if (!inBegin && program.holdLength < program.holds.length) {
                program.holds[program.holdLength] = sign;
                program.holdLength++;
            }
        }

        static int strength(int sign) {
            switch (sign) {
                case OR:
                    return BINDS_OR;
                case AND:
                    return BINDS_AND;
                case NOT:
                    return BINDS_NOT;
                case LESS:
                case AT_MOST:
                case MORE:
                case AT_LEAST:
                case EQUAL:
                case UNLIKE:
                    return BINDS_RELATION;
                case PLUS:
                case MINUS:
                    return BINDS_SUM;
                case TIMES:
                case OVER:
                    return BINDS_PRODUCT;
                case NEGATE:
                    return BINDS_NEGATE;
                default:
                    return 0;
            }
        }
    }

    /** Works out a row of signs by the words of a tick. */
    private static final class Asker {
        final int[] values = new int[MOST_BYTES];
        int now = 0;
        int ahead = 0;
        int other = 0;
        int tick = 0;
        int sweeps = 0;
        int since = 0;

        int answer(int[] signs, int length) {
            int top = 0;
            for (int k = 0; k < length && k < signs.length; k++) {
                int sign = signs[k];
                if (sign >= SINCE) {
                    if (top < values.length) {
                        values[top] = sign >= 0 ? sign : word(sign);
                        top++;
                    }
                } else if (sign == NEGATE || sign == NOT) {
                    if (top >= 1) {
                        values[top - 1] = sign == NOT ? 1 - values[top - 1] : -values[top - 1];
                    }
                } else if (top >= 2) {
                    top--;
                    values[top - 1] = joined(sign, values[top - 1], values[top]);
                }
            }
            return values[0];
        }

        int word(int sign) {
            switch (sign) {
                case NOW:
                    return now;
                case AHEAD:
                    return ahead;
                case OTHER:
                    return other;
                case TICK:
                    return tick;
                case LINE:
                    return tick % LINE_TICKS;
                case SWEEPS:
                    return sweeps;
                default:
                    return since;
            }
        }

        static int joined(int sign, long left, long right) {
            switch (sign) {
                case PLUS:
                    return bounded(left + right);
                case MINUS:
                    return bounded(left - right);
                case TIMES:
                    return bounded(left * right);
                case OVER:
                    return right == 0 ? 0 : bounded(left / right);
                default:
                    return isSo(sign, left, right) ? 1 : 0;
            }
        }

        static boolean isSo(int sign, long left, long right) {
            switch (sign) {
                case LESS:
                    return left < right;
                case AT_MOST:
                    return left <= right;
                case MORE:
                    return left > right;
                case AT_LEAST:
                    return left >= right;
                case EQUAL:
                    return left == right;
                case UNLIKE:
                    return left != right;
                case AND:
                    return (left & right) != 0;
                default:
                    return (left | right) != 0;
            }
        }

        static int bounded(long value) {
            if (value > BOUND) {
                return BOUND;
            }
            return value < -BOUND ? -BOUND : (int) value;
        }
    }

    /** The dots and how they glow. */
    private static final class Screen {
        final int[] glows = new int[COLUMNS * ROWS];

        void darken() {
            for (int k = 0; k < glows.length; k++) {
                glows[k] = 0;
            }
        }

        void dim(int fade) {
            for (int k = 0; k < glows.length; k++) {
                glows[k] = glows[k] * fade / 16;
            }
        }

        void brighten(int column, int row) {
            if (within(column, 0, COLUMNS - 1) && within(row, 0, ROWS - 1)) {
                int dot = column * ROWS + row;
                glows[dot] = Math.min(glows[dot] + DRAWN_GLOW, MOST_GLOW);
            }
        }

        int glowOf(int column, int row) {
            boolean isDot = within(column, 0, COLUMNS - 1) && within(row, 0, ROWS - 1);
            return isDot ? glows[column * ROWS + row] : 0;
        }

        int bits(int column, int n) {
            int bits = 0;
            for (int row = 0; row < ROWS; row++) {
                if (glowOf(column, row) >= n) {
                    bits |= 1 << row;
                }
            }
            return bits;
        }

        int dots(int n) {
            int count = 0;
            for (int column = 0; column < COLUMNS; column++) {
                count += Integer.bitCount(bits(column, n));
            }
            return count;
        }
    }

    /** Runs the sweeps one behind the other, and keeps the outs that it has come to. */
    private static final class Beam {
        final Setup setup = new Setup();
        final Program[] programs = new Program[MOST_TEXTS];
        final Program untold = new Program();
        final Asker asker = new Asker();
        final int[][] outs = new int[CHANNELS][TICKS];
        int traced = 0;
        int ready = 0;
        int sweeps = 0;
        int begin = 0;

        Beam() {
            for (int k = 0; k < programs.length; k++) {
                programs[k] = new Program();
            }
        }

        /** Signals, probes or channels are others now: so are the outs. */
        void forget() {
            traced = 0;
        }

        void traceTo(int last) {
            for (int tick = traced; tick <= last && tick < TICKS; tick++) {
                for (int c = 0; c < CHANNELS; c++) {
                    Channel channel = setup.channels[c];
                    int ahead = tick > 0 ? outs[c][tick - 1] : 0;
                    int raw = isSignal(channel.signal) ? setup.signals[channel.signal].heightAt(tick) : 0;
                    outs[c][tick] = channel.outBehind(ahead, raw);
                }
                traced = tick + 1;
            }
        }

        int outAt(int channel, int tick) {
            if (!isChannel(channel) || !within(tick, 0, TICKS - 1)) {
                return 0;
            }
            traceTo(tick);
            return outs[channel][tick];
        }

        void restart() {
            ready = 0;
            sweeps = 0;
            begin = 0;
        }

        Program told() {
            return within(setup.text, 0, programs.length - 1) ? programs[setup.text] : untold;
        }

        /** Goes on to the next sweep that triggers ahead of a tick, if there is one. */
        boolean next(int ticks) {
            Program program = told();
            for (int tick = ready; tick < ticks && tick < TICKS; tick++) {
                if (!program.isEmpty()) {
                    traceTo(tick);
                    look(tick);
                }
                if (program.beginLength == 0 || asker.answer(program.begins, program.beginLength) != 0) {
                    begin = tick + setup.delay;
                    ready = begin + COLUMNS * setup.pace + heldBy(program);
                    sweeps++;
                    return true;
                }
            }
            return false;
        }

        /** The words of a tick; the sweep that it may trigger is not yet among the sweeps. */
        void look(int tick) {
            if (within(tick, 0, TICKS - 1)) {
                asker.now = outs[0][tick];
                asker.ahead = tick > 0 ? outs[0][tick - 1] : 0;
                asker.other = outs[1][tick];
                asker.tick = tick;
                asker.sweeps = sweeps;
                asker.since = tick - ready;
            }
        }

        int heldBy(Program program) {
            if (program.holdLength == 0) {
                return 0;
            }
            return Math.max(0, Math.min(asker.answer(program.holds, program.holdLength), MOST_HOLD));
        }

        void draw(Screen screen, int ticks) {
            screen.darken();
            traceTo(ticks - 1);
            restart();
            for (int k = 0; k < ticks && next(ticks); k++) {
                if (begin < ticks) {
                    screen.dim(setup.fade);
                    drawSweep(screen, ticks);
                }
            }
        }

        void drawSweep(Screen screen, int ticks) {
            for (int column = 0; column < COLUMNS; column++) {
                int tick = begin + column * setup.pace;
                if (tick < ticks && within(tick, 0, TICKS - 1)) {
                    drawDot(screen, column, tick);
                }
            }
        }

        void drawDot(Screen screen, int column, int tick) {
            if (setup.mode == AGAINST) {
                int across = setup.channels[0].dotsFrom(COLUMNS / 2, outs[0][tick]);
                screen.brighten(across, setup.channels[1].dotsFrom(ROWS / 2, outs[1][tick]));
            } else {
                int turn = turnAt(tick);
                screen.brighten(column, setup.channels[turn].dotsFrom(ROWS / 2, outs[turn][tick]));
            }
        }

        /** The channel whose turn it is at a tick of the latest sweep. */
        int turnAt(int tick) {
            if (setup.mode == ALTERNATE) {
                return sweeps % 2 == 0 ? 1 : 0;
            }
            if (setup.mode == CHOPPED && setup.chop > 0) {
                return tick / setup.chop % 2 == 0 ? 0 : 1;
            }
            return 0;
        }

        boolean catches(int signal, Part spike, int ticks) {
            restart();
            for (int k = 0; k < ticks && next(ticks); k++) {
                for (int column = 0; column < COLUMNS; column++) {
                    int tick = begin + column * setup.pace;
                    if (tick < ticks && spike.isOn(tick) && isShown(signal, tick)) {
                        return true;
                    }
                }
            }
            return false;
        }

        boolean isShown(int signal, int tick) {
            if (setup.mode == AGAINST) {
                return setup.channels[0].signal == signal || setup.channels[1].signal == signal;
            }
            return setup.channels[turnAt(tick)].signal == signal;
        }
    }
}
