import java.util.ArrayList;
import java.util.List;

/**
 * A second reading of the document, written from its terms alone and as plainly as can be:
 * nothing is kept between calls but the state, and texts are read by descent.
 */
final class Oracle {

    static final class Part {
        int kind, height, period, width, from;

        Part(int kind, int height, int period, int width, int from) {
            this.kind = kind;
            this.height = height;
            this.period = period;
            this.width = width;
            this.from = from;
        }

        int phase(int t) {
            return Math.floorMod(t - from, period);
        }

        int at(int t) {
            switch (kind) {
                case 0: return t < from ? 0 : height;
                case 1: return phase(t) < width ? height : 0;
                default: return height * phase(t) / period;
            }
        }
    }

    static final class State {
        List<List<Part>> signals = new ArrayList<>();
        int[] signal = {0, 1}, up = {1, 1}, down = {1, 1}, slow = {16, 16}, gain = {10, 10}, position = {0, 0};
        int pace = 10, delay = 0, fade = 16, mode = 0, chop = 1, text = -1;
        List<Text> texts = new ArrayList<>();
        int[] photo = new int[20];

        State() {
            for (int k = 0; k < 4; k++) signals.add(new ArrayList<>());
        }

        State copy() {
            State s = new State();
            s.signals.clear();
            for (List<Part> parts : signals) {
                List<Part> row = new ArrayList<>();
                for (Part p : parts) row.add(new Part(p.kind, p.height, p.period, p.width, p.from));
                s.signals.add(row);
            }
            s.signal = signal.clone(); s.up = up.clone(); s.down = down.clone(); s.slow = slow.clone();
            s.gain = gain.clone(); s.position = position.clone();
            s.pace = pace; s.delay = delay; s.fade = fade; s.mode = mode; s.chop = chop; s.text = text;
            s.texts = new ArrayList<>(texts);
            s.photo = photo.clone();
            return s;
        }

        int raw(int sig, int t) {
            int sum = 0;
            for (Part p : signals.get(sig)) sum += p.at(t);
            return sum;
        }

        int[] outs(int c, int ticks) {
            int[] row = new int[ticks];
            int last = 0;
            for (int t = 0; t < ticks; t++) {
                int in = raw(signal[c], t) * up[c] / down[c];
                last = last + (in - last) * slow[c] / 16;
                row[t] = last;
            }
            return row;
        }
    }

    // ---- texts

    static final class Words {
        long now, ahead, other, tick, sweeps, since;
    }

    interface Node {
        long at(Words w);
    }

    static final class Text {
        List<Node> begins = new ArrayList<>();
        Node hold = null;
    }

    static final class Fault extends RuntimeException {
        final int kind, place;

        Fault(int kind, int place) {
            super(null, null, false, false);
            this.kind = kind;
            this.place = place;
        }
    }

    static long cut(long x) {
        return Math.max(-1000000, Math.min(1000000, x));
    }

    static final class Descent {
        final String tape;
        final List<String> tokens = new ArrayList<>();
        final List<Integer> places = new ArrayList<>();
        int next = 0;

        Descent(String tape) {
            this.tape = tape;
            int k = 0;
            while (k < tape.length()) {
                char c = tape.charAt(k);
                if (c == ' ' || c == '\n') {
                    k++;
                    continue;
                }
                int from = k++;
                if (letter(c)) {
                    while (k < tape.length() && letter(tape.charAt(k))) k++;
                } else if (digit(c)) {
                    while (k < tape.length() && digit(tape.charAt(k))) k++;
                } else if ((c == '<' || c == '>') && k < tape.length() && tape.charAt(k) == '=') {
                    k++;
                }
                tokens.add(tape.substring(from, k));
                places.add(from);
            }
            tokens.add("");
            places.add(tape.length());
        }

        static boolean letter(char c) {
            return c >= 'a' && c <= 'z' || c >= 'A' && c <= 'Z';
        }

        static boolean digit(char c) {
            return c >= '0' && c <= '9';
        }

        String token() {
            return tokens.get(next);
        }

        Fault fault(int kind) {
            return new Fault(kind, places.get(next));
        }

        boolean takes(String sign) {
            if (!token().equals(sign)) return false;
            next++;
            return true;
        }

        void must(String sign) {
            if (!takes(sign)) throw fault(1);
        }

        Text text() {
            Text text = new Text();
            int clauses = 0;
            while (!token().isEmpty()) {
                boolean hold = token().equals("hold");
                if (!hold && !token().equals("begin")) throw fault(1);
                if (hold && text.hold != null) throw fault(4);
                if (++clauses > 10) throw fault(5);
                next++;
                if (hold) text.hold = sum(0); else text.begins.add(either());
                must(";");
            }
            return text;
        }

        Node either() {
            Node left = both();
            while (takes("or")) {
                Node a = left, b = both();
                left = w -> a.at(w) != 0 | b.at(w) != 0 ? 1 : 0;
            }
            return left;
        }

        Node both() {
            Node left = ask(0);
            while (takes("and")) {
                Node a = left, b = ask(0);
                left = w -> a.at(w) != 0 & b.at(w) != 0 ? 1 : 0;
            }
            return left;
        }

        int opened(int open) {
            if (open == 8) throw fault(3);
            next++;
            return open + 1;
        }

        Node ask(int open) {
            if (token().equals("not")) {
                Node a = ask(opened(open));
                return w -> a.at(w) != 0 ? 0 : 1;
            }
            Node a = sum(open);
            String sign = token();
            if (sign.isEmpty() || !List.of("<", "<=", ">", ">=", "=", "#").contains(sign)) throw fault(1);
            next++;
            Node b = sum(open);
            switch (sign) {
                case "<": return w -> a.at(w) < b.at(w) ? 1 : 0;
                case "<=": return w -> a.at(w) <= b.at(w) ? 1 : 0;
                case ">": return w -> a.at(w) > b.at(w) ? 1 : 0;
                case ">=": return w -> a.at(w) >= b.at(w) ? 1 : 0;
                case "=": return w -> a.at(w) == b.at(w) ? 1 : 0;
                default: return w -> a.at(w) != b.at(w) ? 1 : 0;
            }
        }

        Node sum(int open) {
            Node left = product(open);
            while (token().equals("+") || token().equals("-")) {
                boolean plus = tokens.get(next++).equals("+");
                Node a = left, b = product(open);
                left = plus ? w -> cut(a.at(w) + b.at(w)) : w -> cut(a.at(w) - b.at(w));
            }
            return left;
        }

        Node product(int open) {
            Node left = one(open);
            while (token().equals("*") || token().equals("/")) {
                boolean times = tokens.get(next++).equals("*");
                Node a = left, b = one(open);
                left = times ? w -> cut(a.at(w) * b.at(w)) : w -> b.at(w) == 0 ? 0 : cut(a.at(w) / b.at(w));
            }
            return left;
        }

        Node one(int open) {
            String token = token();
            if (token.equals("(")) {
                Node inside = sum(opened(open));
                must(")");
                return inside;
            }
            if (token.equals("-")) {
                Node a = one(opened(open));
                return w -> -a.at(w);
            }
            if (!token.isEmpty() && digit(token.charAt(0))) {
                java.math.BigInteger number = new java.math.BigInteger(token);
                if (number.compareTo(java.math.BigInteger.valueOf(9999)) > 0) throw fault(2);
                long value = number.longValue();
                next++;
                return w -> value;
            }
            Node word;
            switch (token) {
                case "now": word = w -> w.now; break;
                case "ahead": word = w -> w.ahead; break;
                case "other": word = w -> w.other; break;
                case "tick": word = w -> w.tick; break;
                case "line": word = w -> w.tick % 40; break;
                case "sweeps": word = w -> w.sweeps; break;
                case "since": word = w -> w.since; break;
                default: throw fault(1);
            }
            next++;
            return word;
        }
    }

    // ---- the object

    State s = new State();
    State image = new State();
    StringBuilder tape = new StringBuilder();
    int faultKind = -1, faultPlace = -1;

    static boolean in(int x, int a, int b) {
        return x >= a && x <= b;
    }

    int part(int signal, int kind, int height, int period, int width, int from) {
        if (!in(signal, 0, 3) || !in(kind, 0, 2) || !in(height, -999, 999) || !in(period, 1, 500)
                || !in(width, 0, 500) || !in(from, 0, 1999) || s.signals.get(signal).size() == 6) return -1;
        s.signals.get(signal).add(new Part(kind, height, period, width, from));
        return s.signals.get(signal).size();
    }

    int clear(int signal) {
        if (!in(signal, 0, 3)) return -1;
        int had = s.signals.get(signal).size();
        s.signals.get(signal).clear();
        return had;
    }

    int raw(int signal, int tick) {
        return in(signal, 0, 3) && in(tick, 0, 9999) ? s.raw(signal, tick) : -1000000;
    }

    boolean probe(int c, int up, int down, int slow) {
        if (!in(c, 0, 1) || !in(up, 1, 20) || !in(down, 1, 20) || !in(slow, 1, 16)) return false;
        s.up[c] = up;
        s.down[c] = down;
        s.slow[c] = slow;
        return true;
    }

    boolean channel(int c, int signal, int gain, int position) {
        if (!in(c, 0, 1) || !in(signal, 0, 3) || !in(gain, 1, 999) || !in(position, -15, 15)) return false;
        s.signal[c] = signal;
        s.gain[c] = gain;
        s.position[c] = position;
        return true;
    }

    int out(int c, int tick) {
        return in(c, 0, 1) && in(tick, 0, 1999) ? s.outs(c, tick + 1)[tick] : -1000000;
    }

    boolean base(int pace, int delay, int fade) {
        if (!in(pace, 1, 50) || !in(delay, 0, 999) || !in(fade, 0, 16)) return false;
        s.pace = pace;
        s.delay = delay;
        s.fade = fade;
        return true;
    }

    boolean mode(int mode, int chop) {
        if (!in(mode, 0, 3) || !in(chop, 1, 50)) return false;
        s.mode = mode;
        s.chop = chop;
        return true;
    }

    int feed(int a, int b, int c, int d, int e) {
        if (tape.length() + 20 > 300) return -1;
        for (int x : new int[] {a, b, c, d, e}) {
            for (int k = 3; k >= 0; k--) tape.append((char) (x >> 8 * k & 255));
        }
        return tape.length();
    }

    int end(int n) {
        if (n < 0 || n > tape.length()) return -1;
        tape.setLength(n);
        return n;
    }

    int text() {
        if (s.texts.size() == 4) return -1;
        String told = tape.toString();
        tape.setLength(0);
        try {
            s.texts.add(new Descent(told).text());
        } catch (Fault f) {
            faultKind = f.kind;
            faultPlace = f.place;
            return -1;
        }
        faultKind = 0;
        faultPlace = -1;
        return s.texts.size() - 1;
    }

    int fault(int what) {
        return what == 0 ? faultKind : what == 1 ? faultPlace : -1;
    }

    boolean by(int text) {
        if (!in(text, -1, s.texts.size() - 1)) return false;
        s.text = text;
        return true;
    }

    /** Where the sweeps begin. */
    static List<Integer> sweeps(State s, int ticks) {
        List<Integer> begins = new ArrayList<>();
        int[] zero = s.outs(0, ticks), one = s.outs(1, ticks);
        Text text = s.text < 0 ? new Text() : s.texts.get(s.text);
        int ready = 0;
        int t = 0;
        while (t < ticks) {
            Words w = new Words();
            w.now = zero[t];
            w.ahead = t == 0 ? 0 : zero[t - 1];
            w.other = one[t];
            w.tick = t;
            w.sweeps = begins.size();
            w.since = t - ready;
            boolean so = text.begins.isEmpty();
            for (Node n : text.begins) so |= n.at(w) != 0;
            if (so) {
                long hold = text.hold == null ? 0 : Math.max(0, Math.min(9999, text.hold.at(w)));
                begins.add(t + s.delay);
                ready = t + s.delay + 20 * s.pace + (int) hold;
                t = ready;
            } else {
                t++;
            }
        }
        return begins;
    }

    static int turn(State s, int sweep, int tick) {
        return s.mode == 1 ? sweep % 2 : s.mode == 2 ? tick / s.chop % 2 : 0;
    }

    static int floor(int a, int b) {
        return (int) Math.floor((double) a / b);
    }

    static int[][] glows(State s, int ticks) {
        int[][] glow = new int[20][16];
        int[][] outs = {s.outs(0, ticks), s.outs(1, ticks)};
        List<Integer> begins = sweeps(s, ticks);
        for (int k = 0; k < begins.size(); k++) {
            int begin = begins.get(k);
            if (begin >= ticks) continue;
            for (int[] column : glow) {
                for (int row = 0; row < 16; row++) column[row] = column[row] * s.fade / 16;
            }
            for (int c = 0; c < 20; c++) {
                int tick = begin + c * s.pace;
                if (tick >= ticks) continue;
                int x = c, y;
                if (s.mode == 3) {
                    x = floor(outs[0][tick], s.gain[0]) + 10 + s.position[0];
                    y = floor(outs[1][tick], s.gain[1]) + 8 + s.position[1];
                } else {
                    int turn = turn(s, k, tick);
                    y = floor(outs[turn][tick], s.gain[turn]) + 8 + s.position[turn];
                }
                if (in(x, 0, 19) && in(y, 0, 15)) glow[x][y] = Math.min(999, glow[x][y] + 16);
            }
        }
        return glow;
    }

    static int[] lit(State s, int ticks, int n) {
        int[][] glow = glows(s, ticks);
        int[] bits = new int[20];
        for (int c = 0; c < 20; c++) {
            for (int row = 0; row < 16; row++) if (glow[c][row] >= n) bits[c] += 1 << row;
        }
        return bits;
    }

    static int dots(int[] bits) {
        int sum = 0;
        for (int b : bits) sum += Integer.bitCount(b);
        return sum;
    }

    int swept(int t, int i) {
        if (!in(t, 1, 2000)) return -1;
        List<Integer> begins = sweeps(s, t);
        if (i == -1) return begins.size();
        return in(i, 0, begins.size() - 1) ? begins.get(i) : -1;
    }

    int glow(int t, int column, int row) {
        return in(t, 1, 2000) && in(column, 0, 19) && in(row, 0, 15) ? glows(s, t)[column][row] : -1;
    }

    int lit(int t, int n, int column) {
        if (!in(t, 1, 2000) || !in(n, 1, 999) || !in(column, -1, 19)) return -1;
        int[] bits = lit(s, t, n);
        return column == -1 ? dots(bits) : bits[column];
    }

    int otherwise(int channel, int tick, int i) {
        if (!in(channel, 0, 1) || !in(tick, 0, 1000)) return -1;
        int[] outs = s.outs(channel, 2000);
        int greatest = Integer.MIN_VALUE;
        for (int k = 0; k < 20; k++) greatest = Math.max(greatest, outs[tick + k * s.pace]);
        List<Integer> found = new ArrayList<>();
        for (int p = 2; p <= 24 && greatest > 0; p++) {
            for (int w = 1; w <= p - 1; w++) {
                for (int f = 0; f <= p - 1; f++) {
                    Part square = new Part(1, greatest, p, w, f);
                    boolean like = true;
                    for (int k = 0; k < 20; k++) like &= square.at(tick + k * s.pace) == outs[tick + k * s.pace];
                    if (like) found.add(10000 * p + 100 * w + f);
                }
            }
        }
        if (i == -1) return found.size();
        return in(i, 0, found.size() - 1) ? found.get(i) : -1;
    }

    int caught(int signal, int t) {
        if (!in(signal, 0, 3) || !in(t, 1, 2000)) return -1;
        int last = s.signals.get(signal).size() - 1;
        if (last < 0 || s.signals.get(signal).get(last).kind != 1) return -1;
        int count = 0;
        for (int f = 0; f < s.signals.get(signal).get(last).period; f++) {
            State tried = s.copy();
            Part spike = tried.signals.get(signal).get(last);
            spike.from = f;
            boolean caught = false;
            List<Integer> begins = sweeps(tried, t);
            for (int k = 0; k < begins.size(); k++) {
                for (int c = 0; c < 20; c++) {
                    int tick = begins.get(k) + c * tried.pace;
                    if (tick >= t || spike.phase(tick) >= spike.width) continue;
                    for (int channel = 0; channel < 2; channel++) {
                        boolean turn = tried.mode == 3 || turn(tried, k, tick) == channel;
                        caught |= turn && tried.signal[channel] == signal;
                    }
                }
            }
            if (caught) count++;
        }
        return count;
    }

    boolean photo(int column, int rows) {
        if (!in(column, 0, 19) || !in(rows, 0, 65535)) return false;
        s.photo[column] = rows;
        return true;
    }

    int shoot(int t, int n) {
        if (!in(t, 1, 2000) || !in(n, 1, 999)) return -1;
        s.photo = lit(s, t, n);
        return dots(s.photo);
    }

    int settings(int t, int n, int i) {
        if (!in(t, 1, 2000) || !in(n, 1, 999)) return -1;
        List<Integer> found = new ArrayList<>();
        for (int pace = 1; pace <= 20; pace++) {
            for (int gain : new int[] {1, 2, 5, 10, 20, 50, 100, 200}) {
                State tried = s.copy();
                tried.pace = pace;
                tried.gain[0] = gain;
                if (java.util.Arrays.equals(lit(tried, t, n), s.photo)) found.add(1000 * pace + gain);
            }
        }
        if (i == -1) return found.size();
        return in(i, 0, found.size() - 1) ? found.get(i) : -1;
    }

    int measure(int channel, int a, int b, int what) {
        if (!in(channel, 0, 1) || !(0 <= a && a < b && b <= 2000) || !in(what, 0, 5)) return -1000000;
        int[] outs = s.outs(channel, b);
        int low = Integer.MAX_VALUE, high = Integer.MIN_VALUE, wide = 0;
        for (int t = a; t < b; t++) {
            low = Math.min(low, outs[t]);
            high = Math.max(high, outs[t]);
        }
        for (int t = a; t < b; t++) if (2 * outs[t] >= low + high) wide++;
        if (what == 0) return low;
        if (what == 1) return high;
        if (what == 3) return wide;
        int pace = what == 2 ? 1 : s.pace;
        int tenth = -1, nine = -1;
        for (int k = 0; a + k * pace < b; k++) {
            int up = outs[a + k * pace] - low;
            if (tenth < 0 && 10 * up >= high - low) tenth = k;
            if (nine < 0 && 10 * up >= 9 * (high - low)) nine = k;
        }
        if (tenth < 0 || nine < 0) return -1000000;
        int k = nine - tenth;
        if (what == 2) return k;
        return what == 4 ? Math.max(0, (k - 1) * pace + 1) : (k + 1) * pace - 1;
    }

    int parting(int one, int other, int t, int what) {
        if (!in(one, 0, 3) || !in(other, 0, 3) || !in(t, 1, 2000) || !in(what, 0, 1)) return -1;
        int best = 0, most = -1;
        for (int pace = 1; pace <= 20; pace++) {
            State tried = s.copy();
            tried.pace = pace;
            tried.signal[0] = one;
            int[] a = lit(tried, t, 1);
            tried.signal[0] = other;
            int[] b = lit(tried, t, 1);
            int sum = 0;
            for (int c = 0; c < 20; c++) sum += Integer.bitCount(a[c] ^ b[c]);
            if (sum > most) {
                most = sum;
                best = pace;
            }
        }
        return what == 0 ? best : most;
    }

    int image() {
        image = s.copy();
        return s.texts.size();
    }

    int back() {
        s = image.copy();
        return s.texts.size();
    }

    int about(int what) {
        switch (what) {
            case 0: return s.texts.size();
            case 1: return s.text;
            case 2: return s.pace;
            case 3: return s.delay;
            case 4: return s.fade;
            case 5: return s.mode;
            case 6: return s.chop;
            case 7: return tape.length();
            case 10: case 11: return s.signal[what - 10];
            case 12: case 13: return s.gain[what - 12];
            case 14: case 15: return s.position[what - 14];
            case 20: case 21: case 22: case 23: return s.signals.get(what - 20).size();
            default: return -1;
        }
    }
}
