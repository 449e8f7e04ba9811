/** Puts texts on the tape of a GreenLine, as numbers of four bytes each. */
final class Tape {

    private Tape() {
    }

    /** The twenty bytes of a text from a place on, blanks behind its end. */
    static int[] row(String text, int from) {
        int[] row = new int[5];
        for (int k = 0; k < 20; k++) {
            int sign = from + k < text.length() ? text.charAt(from + k) : ' ';
            row[k / 4] = row[k / 4] << 8 | sign;
        }
        return row;
    }

    static int feed(GreenLine x, String bytes) {
        int[] row = row(bytes, 0);
        return x.feed(row[0], row[1], row[2], row[3], row[4]);
    }

    /** A text and nothing else on an empty tape. */
    static void put(GreenLine x, String text) {
        for (int k = 0; k < text.length(); k += 20) feed(x, text.substring(k, Math.min(text.length(), k + 20)));
        x.end(text.length());
    }

    static int tell(GreenLine x, String text) {
        put(x, text);
        return x.text();
    }
}
