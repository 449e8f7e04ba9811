/** The bounds that the document names of the tape, of texts, their tokens and their words. */
final class TextBounds {

    private TextBounds() {
    }

    // ---- the tape and its texts

    static void numbersOfTexts() {
        Bounds.sentence(12, "TEXTS 0 .. 3:");
        GreenLine x = new GreenLine();
        for (int text = 0; text < 4; text++) {
            Bounds.due("not yet a text", x.by(text), false);
            Bounds.due("texts", x.about(0), text);
            Bounds.due("text", Tape.tell(x, "begin tick=" + text + ";"), text);
            Bounds.due("a text now", x.by(text), true);
            Bounds.due("its trigger", x.swept(9, 0), text);
        }
        Bounds.due("the 5th", Tape.tell(x, "begin tick=7;"), Bounds.NONE);
        Bounds.due("four texts", x.about(0), 4);
        Bounds.due("no text 4", x.by(4), false);
        Bounds.due("text 3 stays told", x.about(1), 3);
        for (int text = 0; text < 4; text++) {
            x.by(text);
            Bounds.due("its trigger stays", x.swept(9, 0), text);
        }
    }

    static void threeHundredBytes() {
        Bounds.sentence(12, "of up to 300 bytes.");
        String blanks = " ".repeat(280);
        Bounds.due("the last token at the 300th byte", Bounds.told(blanks + "  begin   tick   =5;").swept(30, 0), 5);
        Bounds.sound("hold 0" + "+0".repeat(146) + " ;");
        Bounds.sound("hold 0" + "+1".repeat(146) + ";");
        Bounds.faulty(" ".repeat(299) + "x", 1, 299);
        Bounds.faulty("begin 1<2" + " ".repeat(291), 1, 300);
        Bounds.faulty("hold " + "1".repeat(295), 2, 5);
        Bounds.faulty("hold " + "now".repeat(98) + "n", 1, 5);
        Bounds.sound("hold " + "0".repeat(294) + ";");
        Bounds.sound(" ".repeat(300));
        Bounds.due("a sum of 147", Bounds.told("hold 0" + "+1".repeat(146) + " ;").swept(400, 1), 166);
        Bounds.due("the last of 42 that are joined", Bounds.told("begin 1=2" + " or 1=2".repeat(40) + " or 1=1   ;")
                .swept(1, 0), 0);
    }

    static void feedAnswers() {
        Bounds.sentence(10, "Twenty bytes come behind the tape, the highest of a first: how many it has.");
        GreenLine x = new GreenLine();
        for (int k = 1; k <= 15; k++) Bounds.due("feed " + k, x.feed(0, 0, 0, 0, 0), 20 * k);
        Bounds.due("bytes", x.about(7), 300);
        Bounds.due("the highest of a first", begins(0x62656769, 0x6E207469, 0x636B3E34,
                0x3B202020, 0x20202020), 5);
        Bounds.due("the lowest byte of e is the last", begins(0x62656769, 0x6E207469, 0x636B3E34,
                0x20202020, 0x2020203B), 5);
        int[][] firsts = {{Bounds.DEEP, 0}, {-1, 0}, {0, 0}, {0x01020304, 0}, {0x20FFFFFF, 1}, {0x200A8020, 2},
            {0x20200A80, 3}, {0x2020207F, 3}, {Bounds.FAR, 0}};
        for (int[] first : firsts) {
            x = new GreenLine();
            x.feed(first[0], 0, 0, 0, 0);
            Bounds.due("no text", x.text(), Bounds.NONE);
            Bounds.due("no token", x.fault(0), 1);
            Bounds.due("the first byte that is no blank", x.fault(1), first[1]);
        }
    }

    private static int begins(int a, int b, int c, int d, int e) {
        GreenLine x = new GreenLine();
        x.feed(a, b, c, d, e);
        x.text();
        x.by(0);
        return x.swept(99, 0);
    }

    static void feedOfTooMuch() {
        Bounds.sentence(10, "NONE, and none come, if there would be more than 300.");
        GreenLine x = new GreenLine();
        Tape.put(x, "begin tick=7;" + " ".repeat(287));
        Bounds.due("300 and 20", Tape.feed(x, "x"), Bounds.NONE);
        Bounds.due("none came", x.about(7), 300);
        x.end(299);
        Bounds.due("299 and 20", Tape.feed(x, "x"), Bounds.NONE);
        x.end(281);
        Bounds.due("281 and 20", Tape.feed(x, "x"), Bounds.NONE);
        Bounds.due("none came", x.about(7), 281);
        x.end(280);
        Bounds.due("280 and 20", Tape.feed(x, ""), 300);
        Bounds.due("it is a text", x.text(), 0);
        x.by(0);
        Bounds.due("as it was told", x.swept(99, 0), 7);
        Bounds.due("room again", Tape.feed(x, ""), 20);
    }

    static void endAnswers() {
        Bounds.sentence(11, "The tape has its first n bytes alone: n.");
        GreenLine x = new GreenLine();
        Bounds.due("0 of an empty tape", x.end(0), 0);
        Tape.feed(x, "begin tick=12345678;");
        Bounds.due("all 20", x.end(20), 20);
        Bounds.due("19", x.end(19), 19);
        Bounds.due("13", x.end(13), 13);
        Bounds.due("bytes", x.about(7), 13);
        Tape.feed(x, ";");
        Bounds.due("33 now", x.about(7), 33);
        Bounds.due("text", x.text(), 0);
        x.by(0);
        Bounds.due("tick=12", x.swept(99, 0), 12);
        Tape.feed(x, "hold");
        Bounds.due("0", x.end(0), 0);
        Bounds.due("bytes", x.about(7), 0);
        Bounds.due("the empty text", x.text(), 1);
        for (int k = 0; k < 15; k++) Tape.feed(x, "");
        Bounds.due("300", x.end(300), 300);
        Bounds.due("1", x.end(1), 1);
    }

    static void endOfTooMuch() {
        Bounds.sentence(11, "NONE, and nothing is done, if it has not so many, or n is below 0.");
        Bounds.refuses("end", (x, n) -> x.end(n), Bounds.NONE, -1, 21, 300, 301, Bounds.DEEP, Bounds.FAR);
        GreenLine x = new GreenLine();
        Bounds.due("1 of an empty tape", x.end(1), Bounds.NONE);
        Bounds.due("-1 of an empty tape", x.end(-1), Bounds.NONE);
        for (int k = 0; k < 15; k++) Tape.feed(x, "");
        Bounds.due("301 of 300", x.end(301), Bounds.NONE);
        x.end(7);
        Bounds.due("8 of 7, though it had more once", x.end(8), Bounds.NONE);
        Bounds.due("7 stay", x.about(7), 7);
    }

    static void textAnswers() {
        Bounds.sentence(12, "The tape (empty then) is a TEXT: its number.");
        GreenLine x = new GreenLine();
        Bounds.due("an empty tape is a text", x.text(), 0);
        Bounds.due("the tape is empty", x.about(7), 0);
        Bounds.due("another empty one", x.text(), 1);
        Bounds.due("a text", Tape.tell(x, "hold 5;"), 2);
        Bounds.due("the tape is empty", x.about(7), 0);
        Bounds.due("it has no byte", x.end(1), Bounds.NONE);
        Bounds.due("one of blanks", Tape.tell(x, " \n "), 3);
        Bounds.due("the text is still not told", x.about(1), Bounds.NONE);
    }

    static void textWithFault() {
        Bounds.sentence(12, "NONE: it has a FAULT;");
        GreenLine x = new GreenLine();
        x.base(1, 0, 16);
        Bounds.due("a text", Tape.tell(x, "begin tick=3;"), 0);
        x.by(0);
        for (String fault : new String[] {"x", "hold 10000;", "hold ---------1;", "hold 1;hold 2;",
            "begin 1<2;".repeat(11), "begin tick=9"}) {
            Bounds.due("a fault: " + fault, Tape.tell(x, fault), Bounds.NONE);
            Bounds.due("texts", x.about(0), 1);
            Bounds.due("no text of it", x.by(1), false);
            Bounds.due("the text stays told", x.about(1), 0);
            Bounds.due("the text stays as it is", x.swept(9, 0), 3);
        }
        Bounds.due("the next one", Tape.tell(x, "begin tick=5 or since=7;"), 1);
        x.by(1);
        Bounds.due("is whole", x.swept(99, 0), 5);
        Bounds.due("and holds nothing", x.swept(99, 1), 32);
        for (String fault : new String[] {"hold 50;begin 1=1 or", "hold 50;hold", "begin 1=1;begin not not(-(-(1+",
            "begin not 1<2 and 1+2*(3-", "hold --------1*((((", "begin 1=1 and 1=1 and not ((((10000", "begin not x",
            "hold -", "begin 1=2 and", "begin 1=1 or not -;"}) {
            Bounds.due("a fault: " + fault, Tape.tell(x, fault), Bounds.NONE);
            Bounds.due("the next one", Tape.tell(x, "begin not not not not((((1))))<2 and tick=6 or 1*since=9;"), 2);
            x.by(2);
            Bounds.due("is whole", x.swept(99, 0), 6);
            Bounds.due("and holds nothing", x.swept(99, 1), 35);
            x.back();
            x.text();
            x.text();
            x.base(1, 0, 16);
        }
    }

    static void textBehindFour() {
        Bounds.sentence(12, "or (the tape stays) there are 4.");
        GreenLine x = new GreenLine();
        for (int k = 0; k < 4; k++) Tape.tell(x, "begin tick=" + k + ";");
        Tape.put(x, "begin tick=8;");
        Bounds.due("there are 4", x.text(), Bounds.NONE);
        Bounds.due("the tape stays", x.about(7), 13);
        Bounds.due("there are 4 still", x.text(), Bounds.NONE);
        Bounds.due("four texts", x.about(0), 4);
        Bounds.due("the latest fault is of the 4th", x.fault(0), 0);
        x.back();
        Bounds.due("as the new object it is the first", x.text(), 0);
        x.by(0);
        Bounds.due("of what stayed on the tape", x.swept(9, 0), 8);
        x = new GreenLine();
        for (int k = 0; k < 4; k++) x.text();
        Bounds.due("an empty tape, and there are 4", x.text(), Bounds.NONE);
        Bounds.due("no text 4", x.by(4), false);
    }

    static void faultAnswers() {
        Bounds.sentence(13, "Of the latest text that was read: 0 its FAULT (0 without), 1 its place (NONE without).");
        GreenLine x = new GreenLine();
        Tape.tell(x, "hold 10000;");
        Bounds.due("fault", x.fault(0), 2);
        Bounds.due("place", x.fault(1), 5);
        Tape.tell(x, "");
        Bounds.due("without", x.fault(0), 0);
        Bounds.due("without", x.fault(1), Bounds.NONE);
        Tape.tell(x, "x");
        Bounds.due("fault", x.fault(0), 1);
        Bounds.due("place 0", x.fault(1), 0);
        Tape.put(x, "hold 10000;");
        Bounds.due("not read yet", x.fault(0), 1);
        x.back();
        Bounds.due("not of the image", x.fault(0), 1);
        x.text();
        Bounds.due("read now", x.fault(0), 2);
    }

    static void faultOfOthers() {
        Bounds.sentence(13, "NONE for others, and ahead of any.");
        Bounds.takes("ahead of any", (x, what) -> x.fault(what), Bounds.NONE, -1, 0, 1, 2, Bounds.DEEP, Bounds.FAR);
        GreenLine x = new GreenLine();
        Tape.put(x, "x");
        Bounds.due("a tape that is not read is none", x.fault(0), Bounds.NONE);
        Bounds.refuses("fault", (y, what) -> y.fault(what), Bounds.NONE, -1, 2, Bounds.DEEP, Bounds.FAR);
    }

    static void byAnswers() {
        Bounds.sentence(14, "THE TEXT (NONE: none): true. False for others.");
        GreenLine x = new GreenLine();
        Bounds.due("none of none", x.by(Bounds.NONE), true);
        Bounds.due("0 of none", x.by(0), false);
        Tape.tell(x, "begin tick=3;");
        Bounds.due("0 of 1", x.by(0), true);
        Bounds.due("1 of 1", x.by(1), false);
        Bounds.due("0 stays", x.about(1), 0);
        Bounds.due("none of 1", x.by(Bounds.NONE), true);
        Bounds.due("none is told", x.about(1), Bounds.NONE);
        Bounds.due("by none each sweep triggers", x.swept(1, 0), 0);
        Bounds.refuses("by", (y, text) -> Bounds.number(y.by(text)), 0, -2, 2, 3, 4, Bounds.DEEP, Bounds.FAR);
    }

    // ---- tokens

    private static boolean isIn(String signs, int sign) {
        return sign > 0 && signs.indexOf(sign) >= 0;
    }

    static void blanks() {
        Bounds.sentence(13, "TOKENS, blanks (32, 10) aside:");
        Bounds.sound("\n \nbegin\n1 <\n2 ; \n");
        Bounds.faulty(" \n hold", 1, 7);
        Bounds.faulty("be gin 1<2;", 1, 0);
        Bounds.faulty("hold 1 2;", 1, 7);
        Bounds.faulty("hold 1\n2;", 1, 7);
        Bounds.faulty("begin 1< =2;", 1, 9);
        Bounds.faulty("begin 1>\n=2;", 1, 9);
        for (int sign : new int[] {32, 10}) Bounds.sound("hold" + (char) sign + "1" + (char) sign + ";");
        // What stands beside them, and what is blank elsewhere.
        for (int sign : new int[] {0, 9, 11, 12, 13, 31, 33, 127, 128, 138, 160, 255}) {
            Bounds.faulty("hold" + (char) sign + "1;", 1, 4);
            Bounds.faulty("hold 1" + (char) sign + ";", 1, 6);
        }
    }

    static void letters() {
        Bounds.sentence(13, "letters a .. z, A .. Z one behind the other (one TOKEN),");
        for (char letter : "azAZ".toCharArray()) {
            Bounds.faulty("hold now" + letter + ";", 1, 5);
            Bounds.faulty("hold " + letter + "now;", 1, 5);
            Bounds.faulty("hold 1" + letter + ";", 1, 6);
            Bounds.faulty("" + letter, 1, 0);
        }
        for (char sign : "@[`{".toCharArray()) {
            Bounds.faulty("hold now" + sign + ";", 1, 8);
            Bounds.faulty("hold " + sign + "now;", 1, 5);
        }
        Bounds.faulty("hold nownow;", 1, 5);
        Bounds.faulty("hold NOW;", 1, 5);
        Bounds.faulty("hold now Now;", 1, 9);
        Bounds.faulty("Hold 1;", 1, 0);
        Bounds.faulty("hol 1;", 1, 0);
        Bounds.faulty("holdd 1;", 1, 0);
        Bounds.faulty("hold n;", 1, 5);
        Bounds.faulty("hold no;", 1, 5);
        Bounds.faulty("holdnow;", 1, 0);
        Bounds.sound("hold(now);");
        Bounds.sound("hold1;begin1<2or3<4and not5<6;");
    }

    static void numbers() {
        Bounds.sentence(13, "digits likewise (NUMBERS, 0 .. 9999),");
        for (String number : new String[] {"0", "1", "9", "10", "9998", "9999", "00", "0009999", "00000000000009999"}) {
            Bounds.sound("hold " + number + ";");
        }
        for (String number : new String[] {"10000", "10001", "99999", "010000", "65536", "2147483647", "2147483648",
            "4294967296", "9223372036854775808", "18446744073709551616"}) {
            Bounds.faulty("hold " + number + ";", 2, 5);
        }
        Bounds.sound("hold 9/9;");
        Bounds.faulty("hold 9:9;", 1, 6);
        Bounds.faulty("hold :;", 1, 5);
        Bounds.so("0=0 and 0000=0", true);
        Bounds.so("9999=9998+1", true);
        Bounds.so("0009=9", true);
        Bounds.so("10=9+1 and 100=99+1", true);
    }

    static void longestTokens() {
        Bounds.sentence(13, "<= >= < > = # + - * / ( ) ; (the longest).");
        Bounds.so("1<=1 and 1>=1", true);
        Bounds.faulty("begin 1<==1;", 1, 9);
        Bounds.faulty("begin 1>==1;", 1, 9);
        Bounds.faulty("begin 1==1;", 1, 8);
        Bounds.faulty("begin 1=<1;", 1, 8);
        Bounds.faulty("begin 1=>1;", 1, 8);
        Bounds.faulty("begin 1<>1;", 1, 8);
        Bounds.faulty("begin 1<<1;", 1, 8);
        Bounds.faulty("begin 1##1;", 1, 8);
        Bounds.faulty("begin 1<", 1, 8);
        Bounds.faulty("begin 1<=", 1, 9);
        Bounds.so("1<-1", false);
        Bounds.so("1>-1", true);
        // Each byte there is, behind a number: an end, a blank, a digit, what joins, or what can't stand there.
        for (int sign = 0; sign < 256; sign++) {
            String text = "hold 1" + (char) sign + " ;";
            if (sign == 32 || sign == 10 || isIn("0123456789", sign)) Bounds.sound(text);
            else Bounds.faulty(text, 1, isIn("+-*/;", sign) ? 8 : 6);
        }
    }

    // ---- clauses and sums

    static void tenClauses() {
        Bounds.sentence(12, "{CLAUSE}, 10 at most: hold SUM ; (once) or begin EITHER ;");
        Bounds.sound("");
        Bounds.sound(" ");
        Bounds.sound("hold 1;");
        Bounds.sound("begin 1<2;");
        for (int held = 0; held < 10; held++) {
            Bounds.sound("begin 1<2;".repeat(held) + "hold 1;" + "begin 1<2;".repeat(9 - held));
        }
        Bounds.sound("begin 1<2;".repeat(9));
        Bounds.sound("begin 1<2;".repeat(10));
        Bounds.faulty("begin 1<2;".repeat(11), 5, 100);
        Bounds.due("the 10th clause alone is so", Bounds.told("begin 1<1;".repeat(9) + "begin tick=4;").swept(9, 0), 4);
        Bounds.due("the first clause alone is so",
                Bounds.told("begin tick=4;" + "begin 1<1;".repeat(9)).swept(9, 0), 4);
        Bounds.due("a clause is nothing to the next", Bounds.told("begin not 1=1;begin tick=4;").swept(9, 0), 4);
        Bounds.due("nor is hold", Bounds.told("hold -tick;begin tick=4;").swept(9, 0), 4);
        Bounds.due("hold as the 10th", Bounds.told("begin 1<2;".repeat(9) + "hold 7;").swept(99, 1), 27);
        Bounds.faulty(";", 1, 0);
        Bounds.faulty("hold;", 1, 4);
        Bounds.faulty("begin;", 1, 5);
        Bounds.faulty("hold 1;;", 1, 7);
        Bounds.faulty("hold 1", 1, 6);
        Bounds.faulty("hold 1<2;", 1, 6);
        Bounds.faulty("begin 1;", 1, 7);
    }

    static void eitherAndBoth() {
        Bounds.sentence(15, "EITHER: BOTH {or BOTH}. BOTH: ASK {and ASK}.");
        Bounds.so("1=1", true);
        Bounds.so("1=2", false);
        for (int bits = 0; bits < 8; bits++) {
            boolean a = (bits & 1) != 0, b = (bits & 2) != 0, c = (bits & 4) != 0;
            String one = a ? "1=1" : "1=2", two = b ? "2<3" : "3<2", three = c ? "5#6" : "5#5";
            Bounds.so(one + " or " + two + " or " + three, a || b || c);
            Bounds.so(one + " and " + two + " and " + three, a && b && c);
            Bounds.so(one + " or " + two + " and " + three, a || b && c);
            Bounds.so(one + " and " + two + " or " + three, a && b || c);
        }
        Bounds.so("1=2" + " or 1=2".repeat(39) + " or 1=1", true);
        Bounds.so("1=1" + " and 1=1".repeat(34) + " and 1=2", false);
        Bounds.faulty("begin 1<2 or;", 1, 12);
        Bounds.faulty("begin 1<2 and;", 1, 13);
        Bounds.faulty("begin or 1<2;", 1, 6);
        Bounds.faulty("begin 1<2 and or 1<2;", 1, 14);
    }

    static void relations() {
        Bounds.sentence(15, "ASK: not ASK, or SUM one of < <= > >= = # (unlike) SUM.");
        String[] signs = {"<", "<=", ">", ">=", "=", "#"};
        // What is due of 4, of 5 and of 6 against 5.
        boolean[][] due = {{true, false, false}, {true, true, false}, {false, false, true}, {false, true, true},
            {false, true, false}, {true, false, true}};
        for (int k = 0; k < signs.length; k++) {
            for (int left = 4; left <= 6; left++) {
                Bounds.so(left + signs[k] + "5", due[k][left - 4]);
                Bounds.so("not " + left + signs[k] + "5", !due[k][left - 4]);
                Bounds.so("not not " + left + signs[k] + "5", due[k][left - 4]);
                Bounds.so("-" + left + signs[k] + "-5", due[k][6 - left]);
            }
            Bounds.faulty("begin 1" + signs[k] + ";", 1, 7 + signs[k].length());
            Bounds.faulty("begin " + signs[k] + "1;", 1, 6);
            Bounds.faulty("begin 1" + signs[k] + "1" + signs[k] + "1;", 1, 8 + signs[k].length());
        }
        Bounds.so("not 1=2 and 1=2", false);
        Bounds.so("not 1=1 or 1=1", true);
        Bounds.faulty("begin not;", 1, 9);
        Bounds.faulty("begin not 1;", 1, 11);
        Bounds.faulty("begin (1<2);", 1, 8);
        Bounds.faulty("hold not 1;", 1, 5);
    }

    static void sums() {
        Bounds.sentence(15, "SUM: PRODUCT {+ or - PRODUCT}. PRODUCT: ONE {* or / ONE}."
                + " ONE: NUMBER, WORD, ( SUM ), - ONE.");
        String[] so = {"7=7", "2+3*4=14", "(2+3)*4=20", "2*3+4=10", "-2*3=0-6", "2*-3=0-6", "-(2+3)=0-5", "--5=5",
            "---5=0-5", "2--3=5", "2+-3=0-1", "-2-3=0-5", "((7))=7", "8/2*4=16", "10-2*3-1=3", "-6/-2=3", "12/-4=-3"};
        for (String ask : so) Bounds.so(ask, true);
        Bounds.faulty("hold ();", 1, 6);
        Bounds.faulty("hold -;", 1, 6);
        Bounds.faulty("hold 1+;", 1, 7);
        Bounds.faulty("hold +1;", 1, 5);
        Bounds.faulty("hold *1;", 1, 5);
        Bounds.faulty("hold 1*/1;", 1, 7);
        Bounds.faulty("hold (1;", 1, 7);
        Bounds.faulty("hold 1);", 1, 6);
        Bounds.faulty("hold (1));", 1, 8);
        Bounds.faulty("hold 1(2);", 1, 6);
        Bounds.faulty("hold begin;", 1, 5);
    }

    static void fromTheLeft() {
        Bounds.sentence(15, "From the left;");
        String[] so = {"10-3-2=5", "100/5/2=10", "7/2*2=6", "2*7/2=7", "8-3+2=7", "1-2-3-4=0-8", "100/7*7=98",
            "1000*1000*10/10=1000*100"};
        for (String ask : so) Bounds.so(ask, true);
    }

    static void divisions() {
        Bounds.sentence(15, "/ cuts towards 0, by 0 it is 0;");
        String[] so = {"7/2=3", "-7/2=-3", "7/-2=-3", "-7/-2=3", "1/2=0", "-1/2=0", "1/-2=0", "9999/9999=1",
            "9998/9999=0", "-9998/9999=0", "0/5=0", "5/0=0", "-5/0=0", "0/0=0", "9999*9999/0=0", "-9999*9999/0=0",
            "5/tick=0", "5/(3-3)=0", "1+5/0=1", "-(5/0)=0"};
        for (String ask : so) Bounds.so(ask, true);
    }

    static void heldToAMillion() {
        Bounds.sentence(15, "what is above 1000000 (below the same less) is that, at each step.");
        String million = "1000*1000";
        String[] so = {"999*1001+1=" + million, "999*1001#" + million, "999*1001+2=" + million,
            million + "+1=" + million, million + "+1-1=999*1001", million + "+9999-9999=" + million + "-9999",
            million + "-1=999*1001", "9999*9999=" + million, "9999*9999*9999=" + million,
            million + "*(" + million + ")=" + million, million + "+" + million + "=" + million,
            million + "*2/2=500*1000", million + "*2-" + million + "=0",
            "-999*1001-1=-" + million, "-999*1001#-" + million, "-999*1001-2=-" + million,
            "-" + million + "-1=-" + million, "-" + million + "-1+1=-999*1001", "-9999*9999=-" + million,
            "-9999*9999*9999=-" + million, "-" + million + "*(" + million + ")=-" + million,
            "-" + million + "-" + million + "=-" + million, "-(" + million + ")=-" + million,
            "-(-" + million + ")=" + million, "-9999*-9999=" + million, "9999*101=" + million,
            "9999*100#" + million, "9999*100=9999*99+9999", million + "/1=" + million,
            "0-" + million + "/-1=" + million};
        for (String ask : so) Bounds.so(ask, true);
        Bounds.so(million + ">" + million + "-1", true);
        Bounds.so(million + "+1>" + million, false);
        Bounds.so("-" + million + "-1<-" + million, false);
    }

    static void bothSides() {
        Bounds.sentence(15, "or and and look at both sides always.");
        Bounds.so("1=1 or 1/0=1", true);
        Bounds.so("1/0=1 or 1=1", true);
        Bounds.so("1=2 and 1/0=0", false);
        Bounds.so("1/0=0 and 1=2", false);
        Bounds.so("1=1 or 9999*9999*9999=0 and 1=2", true);
        Bounds.faulty("begin 1=1 or 10000=1;", 2, 13);
        Bounds.faulty("begin 1=2 and 10000=1;", 2, 14);
    }

    // ---- words

    private static GreenLine toldWithSteps(String text, int signal, int height, int... froms) {
        GreenLine x = Bounds.told(text);
        for (int from : froms) x.part(signal, 0, height, 1, 0, from);
        return x;
    }

    static void nowAndAhead() {
        Bounds.sentence(15, "WORDS of a TICK t: now, ahead (OUT of CHANNEL 0 at t, and at the TICK ahead),");
        Bounds.due("now at 0", toldWithSteps("begin now>0;", 0, 5, 0).swept(1, 0), 0);
        Bounds.due("now at 1999", toldWithSteps("begin now>0;", 0, 5, 1999).swept(2000, 0), 1999);
        Bounds.due("not ahead of it", toldWithSteps("begin now>0;", 0, 5, 1999).swept(1999, Bounds.NONE), 0);
        Bounds.due("ahead of 0 it is 0", toldWithSteps("begin ahead=0;", 0, 5, 0).swept(2000, Bounds.NONE), 1);
        Bounds.due("ahead at 1", toldWithSteps("begin ahead>0;", 0, 5, 0).swept(2, 0), 1);
        Bounds.due("ahead at 1999", toldWithSteps("begin ahead>0;", 0, 5, 1998).swept(2000, 0), 1999);
        Bounds.due("not at once", toldWithSteps("begin ahead>0;", 0, 5, 1999).swept(2000, Bounds.NONE), 0);
        Bounds.due("now below 0", toldWithSteps("begin now<0-4;", 0, -5, 7).swept(9, 0), 7);
        Bounds.due("channel 1 is not asked", toldWithSteps("begin now>0;", 1, 5, 0).swept(99, Bounds.NONE), 0);
        GreenLine x = toldWithSteps("begin now=100*1000+9999*2-118;", 0, 999, 4, 4, 4, 4, 4, 4);
        x.probe(0, 20, 1, 16);
        Bounds.due("the greatest out there is", x.swept(9, 0), 4);
    }

    static void other() {
        Bounds.sentence(15, "other (OUT of CHANNEL 1 at t),");
        Bounds.due("other at 0", toldWithSteps("begin other>0;", 1, 5, 0).swept(1, 0), 0);
        Bounds.due("other at 1999", toldWithSteps("begin other>0;", 1, 5, 1999).swept(2000, 0), 1999);
        Bounds.due("channel 0 is not asked", toldWithSteps("begin other>0;", 0, 5, 0).swept(99, Bounds.NONE), 0);
    }

    static void tick() {
        Bounds.sentence(15, "tick,");
        Bounds.due("tick 0", Bounds.told("begin tick=0;").swept(2000, Bounds.NONE), 1);
        Bounds.due("tick 1999", Bounds.told("begin tick=1999;").swept(2000, 0), 1999);
        Bounds.due("no tick 2000", Bounds.told("begin tick=2000;").swept(2000, Bounds.NONE), 0);
        Bounds.due("none below 0", Bounds.told("begin tick<0;").swept(2000, Bounds.NONE), 0);
    }

    static void line() {
        Bounds.sentence(15, "line (what is left of t by 40),");
        GreenLine x = Bounds.told("begin line=39;");
        Bounds.due("39", x.swept(99, 0), 39);
        Bounds.due("79", x.swept(99, 1), 79);
        x = Bounds.told("begin line=0;");
        Bounds.due("0", x.swept(99, 0), 0);
        Bounds.due("40", x.swept(99, 1), 40);
        Bounds.due("80", x.swept(99, 2), 80);
        Bounds.due("at 41 it is 1", Bounds.told("begin line=1 and tick>1;").swept(99, 0), 41);
        Bounds.due("never 40", Bounds.told("begin line>=40;").swept(2000, Bounds.NONE), 0);
        Bounds.due("never below 0", Bounds.told("begin line<0;").swept(2000, Bounds.NONE), 0);
        Bounds.due("39 at 1999", Bounds.told("begin line=39 and tick>1990;").swept(2000, 0), 1999);
    }

    static void sweeps() {
        Bounds.sentence(15, "sweeps (how many began),");
        Bounds.due("0 ahead of a first", Bounds.told("begin sweeps=0;").swept(2000, Bounds.NONE), 1);
        Bounds.due("never 1 without a first", Bounds.told("begin sweeps>0;").swept(2000, Bounds.NONE), 0);
        Bounds.due("up to 3", Bounds.told("begin sweeps<3;").swept(2000, Bounds.NONE), 3);
        GreenLine x = Bounds.told("begin sweeps<99;");
        Bounds.due("99 of at most 100", x.swept(2000, Bounds.NONE), 99);
        Bounds.due("anew by each call", x.swept(2000, 0), 0);
        x = Bounds.told("begin sweeps=0 or sweeps=1 and tick>=100 or sweeps=2 and tick=1999;");
        Bounds.due("the second", x.swept(2000, 1), 100);
        Bounds.due("the third", x.swept(2000, 2), 1999);
    }

    static void since() {
        Bounds.sentence(15, "since (TICKS since READY; ahead of a first sweep t).");
        GreenLine x = Bounds.told("begin since=7;");
        Bounds.due("ahead of a first sweep", x.swept(2000, 0), 7);
        Bounds.due("since ready, 27", x.swept(2000, 1), 34);
        Bounds.due("0 as it is ready", Bounds.told("begin since=0;").swept(2000, 99), 1980);
        Bounds.due("ahead of a first sweep as tick", Bounds.told("begin since=tick;").swept(2000, Bounds.NONE), 1);
        Bounds.due("1999 at most", Bounds.told("begin since=1999;").swept(2000, 0), 1999);
        Bounds.due("never below 0", Bounds.told("begin since<0;").swept(2000, Bounds.NONE), 0);
        x = Bounds.told("begin since=5;hold 3;");
        x.base(1, 4, 16);
        Bounds.due("ready is behind delay, sweep and hold: 5 + 4 + 20 + 3 + 5, and 4", x.swept(99, 1), 41);
    }
}
