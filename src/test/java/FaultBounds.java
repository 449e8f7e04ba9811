/** The bounds that the document names of faults and their places. */
final class FaultBounds {

    private FaultBounds() {
    }

    static void firstFault() {
        Bounds.sentence(13, "FAULTS, the first as TOKENS are come to, at the TOKEN's first byte"
                + " (of the end at the length), of one the least:");
        Bounds.faulty("hold 10000 x", 2, 5);
        Bounds.faulty("hold x 10000;", 1, 5);
        Bounds.faulty("hold ---------10000;", 3, 13);
        Bounds.faulty("hold 10000+---------1;", 2, 5);
        Bounds.faulty("hold  \n 99999;", 2, 8);
        Bounds.faulty("begin 1<2; beginn", 1, 11);
        Bounds.faulty("begin 1 <  = 2;", 1, 11);
        Bounds.faulty("hold", 1, 4);
        Bounds.faulty("hold ", 1, 5);
        Bounds.faulty("hold 1 ", 1, 7);
        Bounds.faulty("hold 1", 1, 6);
        Bounds.faulty("begin 1<2;hold 3\n\n", 1, 18);
        // Of one token the least of its faults.
        Bounds.faulty("hold 1 10000;", 1, 7);
        Bounds.faulty("10000", 1, 0);
        Bounds.faulty("hold 1 hold", 1, 7);
        Bounds.faulty("hold 1;begin hold", 1, 13);
        Bounds.faulty("hold --------not", 1, 13);
        Bounds.faulty("hold --------10000;", 2, 13);
        Bounds.faulty("hold 1;" + "begin 1<2;".repeat(9) + "hold 2;", 4, 97);
    }

    static void noPlace() {
        Bounds.sentence(13, "1 it can't stand there, or is none.");
        String[] firsts = {"now", "1", "(", ")", "-", "+", "<", "=", "#", ";", "not", "and", "or", "!", "x",
            "beginhold"};
        for (String first : firsts) Bounds.faulty(first + " hold 1;", 1, 0);
        String[] ones = {";", ")", "+", "*", "/", "<", "<=", ">", ">=", "=", "#", "and", "or", "not", "hold", "begin",
            "?", "then", ""};
        for (String one : ones) Bounds.faulty("hold " + one, 1, 5);
        String[] behindHold = {"(", ")", "<", "<=", ">", ">=", "=", "#", "and", "or", "not", "hold", "begin", "now",
            "7", "?", "then", ""};
        for (String behind : behindHold) Bounds.faulty("hold 1 " + behind, 1, 7);
        String[] behindBegin = {"(", ")", "and", "or", "not", "hold", "begin", "now", "7", "?", "then", "", ";"};
        for (String behind : behindBegin) Bounds.faulty("begin 1 " + behind, 1, 8);
        String[] behindRelation = {"(", ")", "<", "<=", ">", ">=", "=", "#", "not", "hold", "begin", "now", "7", "?",
            ""};
        for (String behind : behindRelation) Bounds.faulty("begin 1<2 " + behind, 1, 10);
        String[] inBrackets = {";", "(", "<", "=", "and", "or", "not", "7", ""};
        for (String in : inBrackets) Bounds.faulty("begin (1 " + in, 1, 9);
        String[] noNots = {"(", "-", "1<", "1+", "1*", "(1-", "not (", "not -", "not 1<", "1<2 and (", "1<2 or -"};
        for (String ahead : noNots) Bounds.faulty("begin " + ahead + " not", 1, 7 + ahead.length());
        Bounds.faulty("begin 1<2\u0000;", 1, 9);
        Bounds.faulty("begin 1<2\u00ff;", 1, 9);
    }

    static void numbersTooGreat() {
        Bounds.sentence(13, "2 a NUMBER above 9999.");
        Bounds.sound("hold 9999;");
        Bounds.faulty("hold 10000;", 2, 5);
        Bounds.faulty("hold 1+10000;", 2, 7);
        Bounds.faulty("hold (10000", 2, 6);
        Bounds.faulty("begin 9999<10000;", 2, 11);
        Bounds.faulty("begin not 10000", 2, 10);
        Bounds.faulty("hold " + "9".repeat(295), 2, 5);
        Bounds.faulty("hold " + "0".repeat(290) + "10000", 2, 5);
        Bounds.sound("hold " + "0".repeat(290) + "9999;");
    }

    private static void open(String head, String opening, String inside, String closing, String tail) {
        for (int many = 1; many <= 10; many++) {
            String text = head + opening.repeat(many) + inside + closing.repeat(many) + tail;
            if (many <= 8) Bounds.sound(text);
            else Bounds.faulty(text, 3, head.length() + 8 * opening.length());
        }
    }

    static void eightOpen() {
        Bounds.sentence(13, "3 the 9th of ( not and - (of one ONE) that are open around one another (at it).");
        open("hold ", "(", "1", ")", ";");
        open("hold ", "-", "1", "", ";");
        open("hold ", "- ", "now", "", ";");
        open("begin ", "(", "1", ")", "<2;");
        open("begin 1<", "(", "1", ")", ";");
        open("begin ", "not ", "1<2", "", ";");
        Bounds.sound("hold -(-(-(-(1))));");
        Bounds.faulty("hold -(-(-(-(-1))));", 3, 13);
        Bounds.faulty("hold -(-(-(-((1)))));", 3, 13);
        Bounds.sound("begin not not not not -(-(1))<1;");
        Bounds.faulty("begin not not not not -(-(-1))<1;", 3, 26);
        Bounds.faulty("begin not not not not not not not not -1<1;", 3, 38);
        Bounds.faulty("begin not not not not not not not not (1)<1;", 3, 38);
        Bounds.faulty("begin not not not not not not not not 1<-1;", 3, 40);
        Bounds.faulty("begin not not not not not not not not 1<(1);", 3, 40);
        Bounds.faulty("begin 1<---------1;", 3, 16);
    }

    static void openNoMore() {
        Bounds.sentence(13, "that are open around one another");
        Bounds.sound("hold ((((((((1))))))))+((((((((2))))))));");
        Bounds.sound("hold --------1---------1;");
        Bounds.sound("hold --------1*--------1;");
        Bounds.sound("hold (((((((-1-1-1-1)))))));");
        Bounds.sound("hold 1" + "-1".repeat(60) + ";");
        Bounds.sound("hold (1)" + "+(1)".repeat(40) + ";");
        Bounds.sound("begin --------1<--------1;");
        Bounds.sound("begin not not not not not not not not 1<1 and not not not not not not not not 1<1;");
        Bounds.sound("begin not not not not not not not not 1<1 or --------1<1;");
        Bounds.sound("begin ((((((((1))))))))<1;hold ((((((((1))))))));");
        Bounds.sound("begin not not not not not not not not 1<1;begin not not not not not not not not 1<1;");
        Bounds.sound("hold -(((((((1)))))))*--------1;");
        Bounds.faulty("hold (-1)+(((((((((1", 3, 18);
        Bounds.faulty("begin not (1)+((((((((1", 3, 21);
        Bounds.faulty("begin not 1<1 and not not not not not not not not not 1<1;", 3, 50);
        Bounds.faulty("hold (1)-((((((((-1", 3, 17);
    }

    static void holdTwice() {
        Bounds.sentence(13, "4 hold for the second time (at it).");
        Bounds.sound("hold 1;");
        Bounds.faulty("hold 1;hold 2;", 4, 7);
        Bounds.faulty("hold 1; \n hold", 4, 10);
        Bounds.faulty("begin 1<2;hold 1;begin 1<2;hold 1;", 4, 27);
        Bounds.faulty("hold 1;" + "begin 1<2;".repeat(8) + "hold 1;", 4, 87);
        Bounds.faulty("hold 1;hold hold", 4, 7);
        GreenLine x = new GreenLine();
        Tape.tell(x, "hold 1;");
        Bounds.due("once in another text", Tape.tell(x, "hold 2;"), 1);
        Bounds.due("hold behind one that had a fault", Tape.tell(x, "hold 1;hold 1;"), Bounds.NONE);
        Bounds.due("once again", Tape.tell(x, "begin 1<2;hold 3;"), 2);
    }

    static void eleventhClause() {
        Bounds.sentence(13, "5 the 11th CLAUSE (at its first TOKEN).");
        String ten = "begin 1<2;".repeat(10);
        Bounds.sound(ten);
        Bounds.sound(ten + " \n ");
        Bounds.faulty(ten + "begin", 5, 100);
        Bounds.faulty(ten + "  begin 1<2;", 5, 102);
        Bounds.faulty(ten + "hold 1;", 5, 100);
        Bounds.faulty(ten + ";", 1, 100);
        Bounds.faulty(ten + "beginn", 1, 100);
        Bounds.faulty("begin 1<2;".repeat(9) + "hold 1;begin 1<2;", 5, 97);
        Bounds.faulty("begin 1<2;".repeat(20), 5, 100);
        Bounds.faulty("hold 0;" + "begin 1<2;".repeat(9) + "begin 10000", 5, 97);
        GreenLine x = new GreenLine();
        Tape.tell(x, ten);
        Bounds.due("ten of another text", Tape.tell(x, ten), 1);
        Bounds.due("ten behind one that had a fault", Tape.tell(x, ten + "begin 1<2;"), Bounds.NONE);
        Bounds.due("ten again", Tape.tell(x, ten), 2);
    }
}
