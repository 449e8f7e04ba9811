import java.util.ArrayList;
import java.util.List;
import java.util.Random;

/** Random runs of calls, of one seed each, on GreenLine and on the Oracle: every answer is alike. */
public final class RandomRunsTest {

    private static final int CALLS = 512;

    private final Random random;
    private final GreenLine line = new GreenLine();
    private final Oracle oracle = new Oracle();
    private final List<String> log = new ArrayList<>();
    private boolean wrong = false;

    private RandomRunsTest(long seed) {
        random = new Random(seed);
    }

    public static void main(String[] args) {
        int runs = args.length > 0 ? Integer.parseInt(args[0]) : 150;
        long first = args.length > 1 ? Long.parseLong(args[1]) : 1;
        int failed = 0;
        for (long seed = first; seed < first + runs; seed++) {
            RandomRunsTest run = new RandomRunsTest(seed);
            run.go();
            if (run.wrong) {
                failed++;
                System.out.println("seed " + seed + ":");
                int from = Math.max(0, run.log.size() - 60);
                for (String row : run.log.subList(from, run.log.size())) System.out.println("  " + row);
                break;
            }
        }
        System.out.println("RandomRunsTest: " + (runs - failed) + " passed, " + failed + " failed");
        if (failed > 0) System.exit(1);
    }

    private void go() {
        while (log.size() < CALLS && !wrong) {
            int kind = random.nextInt(100);
            if (kind < 18) signals();
            else if (kind < 30) views();
            else if (kind < 42) tell();
            else if (kind < 84) asks();
            else if (kind < 92) dear();
            else images();
        }
    }

    private void same(String call, int got, int due) {
        log.add(call + " = " + got);
        if (got != due) {
            wrong = true;
            log.add("due is " + due);
        }
    }

    private void same(String call, boolean got, boolean due) {
        same(call, got ? 1 : 0, due ? 1 : 0);
    }

    /** A number of a range, now and then one just beside it or far from it. */
    private int num(int least, int most) {
        int way = random.nextInt(60);
        if (way == 0) return least - 1;
        if (way == 1) return most + 1;
        if (way == 2) return random.nextInt();
        if (way == 3) return random.nextBoolean() ? Integer.MAX_VALUE : Integer.MIN_VALUE;
        if (way < 7) return random.nextBoolean() ? least : most;
        return least + random.nextInt(most - least + 1);
    }

    private int few(int least, int most) {
        return random.nextInt(3) > 0 ? num(least, least + Math.min(most - least, 30)) : num(least, most);
    }

    private void signals() {
        int a = num(0, 3), k = random.nextInt(3) > 0 ? num(1, 1) : num(0, 2);
        int h = random.nextInt(3) > 0 ? num(-100, 100) : num(-999, 999);
        int p = few(1, 500), w = random.nextBoolean() ? num(0, Math.min(500, Math.max(0, p))) : few(0, 500);
        int f = few(0, 1999);
        if (random.nextInt(8) == 0) {
            same("clear(" + a + ")", line.clear(a), oracle.clear(a));
        } else {
            same("part(" + a + "," + k + "," + h + "," + p + "," + w + "," + f + ")",
                    line.part(a, k, h, p, w, f), oracle.part(a, k, h, p, w, f));
        }
    }

    private void views() {
        int a, b, c, d;
        switch (random.nextInt(5)) {
            case 0:
                a = num(0, 1); b = num(1, 20); c = num(1, 20); d = random.nextBoolean() ? 16 : num(1, 16);
                same("probe(" + a + "," + b + "," + c + "," + d + ")", line.probe(a, b, c, d), oracle.probe(a, b, c, d));
                break;
            case 1:
                a = num(0, 1); b = num(0, 3); c = few(1, 999); d = random.nextBoolean() ? num(-15, 15) : num(-3, 3);
                same("channel(" + a + "," + b + "," + c + "," + d + ")",
                        line.channel(a, b, c, d), oracle.channel(a, b, c, d));
                break;
            case 2:
                a = random.nextBoolean() ? num(1, 3) : num(1, 50); b = random.nextBoolean() ? 0 : few(0, 999);
                c = num(0, 16);
                same("base(" + a + "," + b + "," + c + ")", line.base(a, b, c), oracle.base(a, b, c));
                break;
            case 3:
                a = num(0, 3); b = few(1, 50);
                same("mode(" + a + "," + b + ")", line.mode(a, b), oracle.mode(a, b));
                break;
            default:
                a = num(0, 19); b = random.nextBoolean() ? 1 << random.nextInt(16) : num(0, 65535);
                same("photo(" + a + "," + b + ")", line.photo(a, b), oracle.photo(a, b));
        }
    }

    // ---- texts

    private void tell() {
        int way = random.nextInt(10);
        if (way < 2) {
            int n = num(-1, 3);
            same("by(" + n + ")", line.by(n), oracle.by(n));
            return;
        }
        if (way == 2) {
            int n = random.nextBoolean() ? num(0, 300) : oracle.tape.length() - random.nextInt(4);
            same("end(" + n + ")", line.end(n), oracle.end(n));
            return;
        }
        feedText(random.nextInt(12) == 0 ? noise() : bent(clauses()));
        same("text()", line.text(), oracle.text());
        same("fault(0)", line.fault(0), oracle.fault(0));
        same("fault(1)", line.fault(1), oracle.fault(1));
        int n = random.nextInt(4) == 0 ? num(-1, 3) : oracle.s.texts.size() - 1;
        same("by(" + n + ")", line.by(n), oracle.by(n));
        if (oracle.s.texts.size() == 4 && random.nextBoolean()) {
            same("back()", line.back(), oracle.back());
        }
    }

    private void feedText(String text) {
        int start = oracle.tape.length();
        for (int k = 0; k < text.length(); k += 20) {
            int[] row = Tape.row(text, k);
            same("feed " + k, line.feed(row[0], row[1], row[2], row[3], row[4]),
                    oracle.feed(row[0], row[1], row[2], row[3], row[4]));
        }
        int length = Math.min(oracle.tape.length(), start + text.length());
        same("end(" + length + ")", line.end(length), oracle.end(length));
        log.add("TEXT " + oracle.tape);
    }

    private String clauses() {
        StringBuilder text = new StringBuilder();
        int many = random.nextInt(8) == 0 ? 8 + random.nextInt(6) : random.nextInt(4);
        int hold = random.nextInt(many + 3);
        for (int k = 0; k < many; k++) {
            if (k == hold || random.nextInt(30) == 0) {
                text.append("hold ").append(sum(2)).append(';');
            } else {
                text.append("begin").append(blank()).append(either(many > 6 ? 0 : 2)).append(';');
            }
            text.append(random.nextInt(5) == 0 ? "\n" : "");
        }
        return text.length() > 300 ? text.substring(0, 300) : text.toString();
    }

    private String blank() {
        return random.nextInt(8) == 0 ? "\n" : " ";
    }

    private String either(int depth) {
        StringBuilder text = new StringBuilder(ask(depth));
        for (int k = random.nextInt(depth + 1); k > 0; k--) {
            text.append(random.nextBoolean() ? " or " : " and ").append(ask(depth));
        }
        return text.toString();
    }

    private String ask(int depth) {
        if (random.nextInt(6) == 0) return "not " + (random.nextInt(5) == 0 ? nots() : "") + ask(depth);
        String[] signs = {"<", "<=", ">", ">=", "=", "#"};
        return sum(depth) + signs[random.nextInt(6)] + sum(depth);
    }

    private String nots() {
        StringBuilder text = new StringBuilder();
        for (int k = 5 + random.nextInt(4); k > 0; k--) text.append("not ");
        return text.toString();
    }

    private String sum(int depth) {
        StringBuilder text = new StringBuilder(one(depth));
        for (int k = random.nextInt(3) == 0 ? 1 + random.nextInt(3) : 0; k > 0; k--) {
            text.append("+-*/".charAt(random.nextInt(4))).append(random.nextInt(6) == 0 ? " " : "").append(one(depth));
        }
        return text.toString();
    }

    private String one(int depth) {
        int way = random.nextInt(14);
        if (way == 0) return "-" + one(depth);
        if (way == 1 && depth > 0) return "(" + sum(depth - 1) + ")";
        if (way == 2) return deep();
        if (way < 6) return "" + (random.nextBoolean() ? random.nextInt(50) : random.nextInt(10040));
        String[] words = {"now", "ahead", "other", "tick", "line", "sweeps", "since", "now", "since"};
        return words[random.nextInt(words.length)];
    }

    private String deep() {
        StringBuilder text = new StringBuilder();
        int brackets = 0;
        for (int k = 5 + random.nextInt(5); k > 0; k--) {
            boolean minus = random.nextBoolean();
            text.append(minus ? '-' : '(');
            brackets += minus ? 0 : 1;
        }
        text.append(random.nextInt(100));
        for (; brackets > 0; brackets--) text.append(')');
        return text.toString();
    }

    /** Now and then some signs of a text are others, gone or come. */
    private String bent(String text) {
        if (random.nextInt(3) > 0 || text.isEmpty()) return text;
        StringBuilder bent = new StringBuilder(text);
        String signs = "()<>=#+-*/; \n0129aZnor\t!\u00e9\0:@[`{";
        String[] pieces = {" and ", " or ", " not ", "10000", " hold 3;", " begin ", "<=", ">=", "9999", "now"};
        for (int k = 1 + random.nextInt(2); k > 0; k--) {
            int at = random.nextInt(bent.length());
            switch (random.nextInt(4)) {
                case 0: bent.deleteCharAt(at); break;
                case 1: bent.insert(at, signs.charAt(random.nextInt(signs.length()))); break;
                case 2: bent.insert(at, pieces[random.nextInt(pieces.length)]); break;
                default: bent.setLength(at);
            }
            if (bent.length() == 0) break;
        }
        return bent.length() > 300 ? bent.substring(0, 300) : bent.toString();
    }

    private String noise() {
        StringBuilder text = new StringBuilder();
        for (int k = random.nextInt(40); k > 0; k--) text.append((char) random.nextInt(256));
        return text.toString();
    }

    // ---- asks

    private int index() {
        return random.nextInt(3) == 0 ? -1 : random.nextInt(8) == 0 ? num(-1, 100) : random.nextInt(4);
    }

    private int span() {
        return random.nextInt(4) > 0 ? num(1, 300) : num(1, 2000);
    }

    private int level() {
        return random.nextInt(3) > 0 ? num(1, 40) : num(1, 999);
    }

    private void asks() {
        int a, b, c, d;
        switch (random.nextInt(10)) {
            case 0:
                a = num(0, 3); b = num(0, 9999);
                same("raw(" + a + "," + b + ")", line.raw(a, b), oracle.raw(a, b));
                break;
            case 1:
                a = num(0, 1); b = num(0, 1999);
                same("out(" + a + "," + b + ")", line.out(a, b), oracle.out(a, b));
                break;
            case 2:
            case 3:
                a = span(); b = index();
                same("swept(" + a + "," + b + ")", line.swept(a, b), oracle.swept(a, b));
                break;
            case 4:
                a = span(); b = num(0, 19); c = num(0, 15);
                same("glow(" + a + "," + b + "," + c + ")", line.glow(a, b, c), oracle.glow(a, b, c));
                break;
            case 5:
                a = span(); b = level(); c = num(-1, 19);
                same("lit(" + a + "," + b + "," + c + ")", line.lit(a, b, c), oracle.lit(a, b, c));
                break;
            case 6:
                a = num(0, 1); b = random.nextBoolean() ? num(0, 60) : num(0, 1000); c = index();
                same("otherwise(" + a + "," + b + "," + c + ")", line.otherwise(a, b, c), oracle.otherwise(a, b, c));
                break;
            case 7:
                a = num(0, 1); b = few(0, 1999); c = b + 1 + random.nextInt(80); d = num(0, 5);
                if (random.nextInt(10) == 0) c = num(0, 2000);
                same("measure(" + a + "," + b + "," + c + "," + d + ")",
                        line.measure(a, b, c, d), oracle.measure(a, b, c, d));
                break;
            case 8:
                a = num(0, 23);
                same("about(" + a + ")", line.about(a), oracle.about(a));
                break;
            default:
                a = span(); b = level();
                same("shoot(" + a + "," + b + ")", line.shoot(a, b), oracle.shoot(a, b));
        }
    }

    private void dear() {
        int a = span(), b = level(), c = index();
        switch (random.nextInt(4)) {
            case 0:
                b = num(0, 3);
                same("caught(" + b + "," + a + ")", line.caught(b, a), oracle.caught(b, a));
                break;
            case 1:
                same("settings(" + a + "," + b + "," + c + ")", line.settings(a, b, c), oracle.settings(a, b, c));
                break;
            case 2:
                int keep = line.shoot(a, b);
                same("shoot(" + a + "," + b + ")", keep, oracle.shoot(a, b));
                same("settings(" + a + "," + b + "," + c + ")", line.settings(a, b, c), oracle.settings(a, b, c));
                break;
            default:
                int one = num(0, 3), other = num(0, 3), what = num(0, 1);
                same("parting(" + one + "," + other + "," + a + "," + what + ")",
                        line.parting(one, other, a, what), oracle.parting(one, other, a, what));
        }
    }

    private void images() {
        if (random.nextInt(3) == 0) {
            same("image()", line.image(), oracle.image());
        } else {
            same("back()", line.back(), oracle.back());
        }
        for (int what = 0; what < 24; what++) {
            if (random.nextInt(6) == 0) same("about(" + what + ")", line.about(what), oracle.about(what));
        }
    }
}
