/** The edges of promises 1 to 3: 80 letters, at least one STATEMENT, FAULTS of both kinds. */
public final class BackEdgeTest {
    private static final Check check = new Check();
    /** A text of each STATEMENT without its ";", and which letters can stand at each of its places. */
    private static final String[] STATEMENTS = {"ii00", "h012", "m0", "s00", "o000"};
    private static final String FIRST = "ihmso";
    private static final String KINDS = "ichfsn";
    private static final String DIGITS = "0123456789";

    public static void main(String[] args) {
        oneLetter();
        eightyLetters();
        eightyLettersAmidAStatement();
        atLeastOneStatement();
        everyLetterAtEveryPlace();
        theEndIfSomethingLacks();
        numbersInAndOutOfRange();
        thePlaceOfAStatement();
        lettersGoAheadOfNumbers();
        strokesToldAtTheLastTime();
        nothingComesWithAFault();
        lettersAreNoMore();
        check.end();
    }

    private static void told(String text, int want) {
        check.due("back of \"" + text + "\"", Check.tell(new HigherMoreLeft(), text), want);
    }

    /** "A letter (0 .. 255) comes" */
    private static void oneLetter() {
        int[][] rows = {{0, 1}, {1, 1}, {254, 1}, {255, 1}, {-1, -4}, {256, -6}};
        for (int[] row : rows) {
            HigherMoreLeft x = new HigherMoreLeft();
            check.due("letter(" + row[0] + ")", x.letter(row[0]), row[1]);
            check.due("count(9) behind it", x.count(9), row[1] == 1 ? 1 : 0);
            check.due("count(14) behind it", x.count(14), row[1] == -4 ? 1 : 0);
            check.due("count(16) behind it", x.count(16), row[1] == -6 ? 1 : 0);
        }
    }

    private static HigherMoreLeft full() {
        HigherMoreLeft x = new HigherMoreLeft();
        for (int i = 1; i <= 80; i++) {
            check.due("letter " + i, x.letter("s07;".charAt((i - 1) % 4)), i);
        }
        return x;
    }

    /** "80 at most": the 80th comes, the 81st does not, and the 80 are a BACK. */
    private static void eightyLetters() {
        HigherMoreLeft x = full();
        check.due("the 81st", x.letter('s'), -6);
        check.due("the 81st of 255", x.letter(255), -6);
        check.due("the 81st above 255", x.letter(256), -6);
        check.due("the 81st below 0", x.letter(-1), -4);
        check.due("count(9) of 80", x.count(9), 80);
        check.due("count(16)", x.count(16), 3);
        check.due("count(14)", x.count(14), 1);
        check.due("back() of 80", x.back(), 20);
        check.due("TIME", x.count(0), 20);
        check.due("count(9) behind it", x.count(9), 0);
        HigherMoreLeft less = new HigherMoreLeft();
        String text = "s07;".repeat(19) + "m5;";
        check.due("back() of 79", Check.tell(less, text), 20);
        check.due("the SEAM told last", less.count(6), 5);
        check.due("again 79", Check.tell(less, text), 20);
        check.due("TIME", less.count(0), 38);
    }

    private static void eightyLettersAmidAStatement() {
        told("s07;".repeat(19) + "s07", -1079);
        told("s07;".repeat(19) + "h012", -1080);
        told("s07;".repeat(19) + "h01;", -1079);
        told("m0;".repeat(26) + "m0", -1080);
        told("m0;".repeat(26) + "mm", -1079);
        told("m0;".repeat(26) + "m6", -1080);
        told("m0;".repeat(26) + "xx", -1078);
    }

    /** "At least one STATEMENT" */
    private static void atLeastOneStatement() {
        HigherMoreLeft x = new HigherMoreLeft();
        check.due("back() of none", x.back(), -1000);
        check.due("back() of none again", x.back(), -1000);
        for (int what = 11; what <= 16; what++) {
            check.due("none is refused: count(" + what + ")", x.count(what), 0);
        }
        told(";", -1000);
        told("m0;", 1);
        told("m0;m0;", 2);
        told("m0;;", -1003);
    }

    private static String canStand(String statement, int place) {
        if (place == 0) {
            return FIRST;
        }
        if (place == statement.length()) {
            return ";";
        }
        return statement.charAt(0) == 'i' && place == 1 ? KINDS : DIGITS;
    }

    /** "kind 1 the place of the first letter with which no BACK can go on" */
    private static void everyLetterAtEveryPlace() {
        for (String ahead : new String[] {"", "m5;", "s00;ic23;"}) {
            int many = ahead.isEmpty() ? 0 : ahead.split(";").length;
            for (String statement : STATEMENTS) {
                for (int place = 0; place <= statement.length(); place++) {
                    String start = ahead + statement.substring(0, place);
                    for (char c = 0; c <= 255; c++) {
                        boolean fits = canStand(statement, place).indexOf(c) >= 0;
                        boolean whole = place == statement.length() && fits;
                        int end = start.length() + (fits ? 1 : 0);
                        told(start + c, whole ? many + 1 : -1000 - end);
                    }
                }
            }
        }
    }

    /** "the end, if something lacks", and a letter more than there should be is not the end. */
    private static void theEndIfSomethingLacks() {
        String text = "ic23;h135;m5;s23;o239;";
        int statements = 0;
        for (int end = 0; end <= text.length(); end++) {
            boolean whole = end > 0 && text.charAt(end - 1) == ';';
            statements += whole ? 1 : 0;
            told(text.substring(0, end), whole ? statements : -1000 - end);
        }
        told("ii0;", -1003);
        told("ii000;", -1004);
        told("h01;", -1003);
        told("h0123;", -1004);
        told("m;", -1001);
        told("m00;", -1002);
        told("s0;", -1002);
        told("s000;", -1003);
        told("o00;", -1003);
        told("o0000;", -1004);
    }

    /** "a number out of range": the last that is in it and the first that is not. */
    private static void numbersInAndOutOfRange() {
        for (char kind : KINDS.toCharArray()) {
            cells("i" + kind, "");
        }
        cells("s", "");
        cells("o", "0");
        cells("o", "9");
        inRange("h", 0, 1, "12");
        inRange("h0", 1, 3, "2");
        inRange("h01", 2, 5, "");
        inRange("h1", 1, 3, "5");
        inRange("h13", 2, 5, "");
        inRange("m", 0, 5, "");
        inRange("o00", 0, 9, "");
        inRange("o23", 0, 9, "");
        HigherMoreLeft least = Check.told("if00;h012;m0;o000;");
        HigherMoreLeft most = Check.told("in23;h135;m5;o239;");
        int[][] counts = {{3, 0, 1}, {4, 1, 3}, {5, 2, 5}, {6, 0, 5}, {2, 0, 9}};
        for (int[] row : counts) {
            check.due("least: count(" + row[0] + ")", least.count(row[0]), row[1]);
            check.due("most: count(" + row[0] + ")", most.count(row[0]), row[2]);
        }
        check.due("least: CELL", least.itch(1), 0);
        check.due("most: CELL", most.itch(1), 23);
        check.due("most: SORE", most.sore(23), 9);
    }

    private static void cells(String ahead, String behind) {
        for (int cell = 0; cell <= 99; cell++) {
            told(ahead + Check.two(cell) + behind + ";", cell <= 23 ? 1 : -2000);
        }
    }

    private static void inRange(String ahead, int least, int most, String behind) {
        for (int v = 0; v <= 9; v++) {
            told(ahead + v + behind + ";", v >= least && v <= most ? 1 : -2000);
        }
    }

    /** "kind 2 the place of the first letter of the first STATEMENT that .. is not as it must be" */
    private static void thePlaceOfAStatement() {
        told("m6;m5;", -2000);
        told("m5;m6;", -2003);
        told("m5;m6;m6;s99;", -2003);
        told("ih23;h135;m5;s23;o239;ih24;", -2022);
        told("ih23;h135;m5;s23;o239;h235;", -2022);
        told("ih23;h135;m5;s23;o249;m0;", -2017);
        told("s00;".repeat(19) + "s24;", -2076);
        told("m0;".repeat(25) + "h016;", -2075);
        told("m0;".repeat(25) + "h015;", 26);
    }

    private static void lettersGoAheadOfNumbers() {
        told("m6;", -2000);
        told("m6;x", -1003);
        told("m6;m5", -1005);
        told("s99;ii99;h999;o999;;", -1019);
        told("s99;ii99;h999;o999;m", -1020);
        told("s99;ii99;h999;o999;m9;", -2000);
    }

    /** "'s' when TIME is 999", "behind all ahead of it in the text" */
    private static void strokesToldAtTheLastTime() {
        HigherMoreLeft x = Check.told("ih23;");
        for (int i = 0; i < 49; i++) {
            check.due("twenty strokes", Check.tell(x, "s05;".repeat(20)), 20);
        }
        check.due("TIME", x.count(0), 980);
        check.due("twenty strokes at 980", Check.tell(x, "s05;".repeat(20)), -2076);
        check.due("TIME stays", x.count(0), 980);
        check.due("eighteen strokes", Check.tell(x, "s05;".repeat(18)), 18);
        check.due("no CELL is struck first", Check.tell(x, "s24;s05;"), -2000);
        check.due("two strokes at 998", Check.tell(x, "m3;s05;m4;s05;"), -2010);
        check.due("the SEAM stays", x.count(6), 0);
        check.due("a stroke at 998", Check.tell(x, "s05;"), 1);
        check.due("TIME", x.count(0), 999);
        check.due("a stroke at 999", Check.tell(x, "s05;"), -2000);
        check.due("all else at 999", Check.tell(x, "ih22;h135;m5;o239;"), 4);
        check.due("a stroke amid all else", Check.tell(x, "ih21;h012;m0;s00;o230;"), -2013);
        check.due("CELL stays", x.itch(1), 22);
        check.due("TIME stays", x.count(0), 999);
        check.due("no REFUSAL", x.count(16), 0);
    }

    /** "with one nothing", "(nothing is counted)" */
    private static void nothingComesWithAFault() {
        String[] faults = {"", "x", "if02;h013;m0;s05;o070;x", "if02;h013;m0;s05;o070;s2", "if02;h013;m0;s05;o070;s24;"};
        for (String fault : faults) {
            HigherMoreLeft x = filled();
            HigherMoreLeft twin = filled();
            int answer = Check.tell(x, fault);
            check.due("a FAULT of " + fault, answer <= -1000 ? 1 : 0, 1);
            check.due("no REFUSAL by " + fault, Probe.refusals(x).equals(Probe.refusals(twin)) ? 1 : 0, 1);
            check.due("nothing came by " + fault, Probe.toTheEnd(x).equals(Probe.toTheEnd(twin)) ? 1 : 0, 1);
        }
    }

    private static HigherMoreLeft filled() {
        HigherMoreLeft x = Check.told("is08;h124;m3;s01;o115;");
        x.saying(8, 3);
        x.row(8);
        x.image();
        x.stroke(9);
        return x;
    }

    /** "The letters become a BACK, and are no more (with a FAULT neither)" */
    private static void lettersAreNoMore() {
        for (String text : new String[] {"m5;", "m6;", "x", "m"}) {
            HigherMoreLeft x = new HigherMoreLeft();
            Check.tell(x, text);
            check.due("letters behind " + text, x.count(9), 0);
            check.due("back() again behind " + text, x.back(), -1000);
            check.due("the first letter behind " + text, x.letter('m'), 1);
            x.letter('4');
            x.letter(';');
            check.due("a BACK behind " + text, x.back(), 1);
            check.due("its SEAM", x.count(6), 4);
        }
    }
}
