/** Promises 1 to 3: a new object, letters, a BACK and its FAULTS. */
public final class BackTest {
    private static final Check check = new Check();

    public static void main(String[] args) {
        aNewObject();
        letters();
        statements();
        letterFaults();
        statementFaults();
        nothingComesWithAFault();
        lettersOfAnEarlierText();
        check.end();
    }

    private static void aNewObject() {
        HigherMoreLeft x = new HigherMoreLeft();
        int[] counts = {0, 0, 0, 0, 1, 3, 0, 0, 0, 0, -9, 0, 0, 0, 0, 0, 0, -9};
        for (int what = 0; what < counts.length; what++) {
            check.due("new: count(" + what + ")", x.count(what), counts[what]);
        }
        check.due("new: itch(0)", x.itch(0), 0);
        check.due("new: itch(1)", x.itch(1), 0);
        check.due("new: say()", x.say(), 8);
        for (int cell = 0; cell < 24; cell++) {
            check.due("new: sore(" + cell + ")", x.sore(cell), 0);
        }
    }

    private static void letters() {
        HigherMoreLeft x = new HigherMoreLeft();
        check.due("letter(0)", x.letter(0), 1);
        check.due("letter(255)", x.letter(255), 2);
        check.due("letter(-1)", x.letter(-1), -4);
        check.due("letter(256)", x.letter(256), -6);
        check.due("letter(least int)", x.letter(Integer.MIN_VALUE), -4);
        check.due("letter(greatest int)", x.letter(Integer.MAX_VALUE), -6);
        check.due("count(9)", x.count(9), 2);
        for (int i = 3; i <= 80; i++) {
            check.due("letter " + i, x.letter('s'), i);
        }
        check.due("letter 81", x.letter('s'), -6);
        check.due("letter 81 below 0", x.letter(-1), -4);
        check.due("count(9) full", x.count(9), 80);
        check.due("count(14)", x.count(14), 3);
        check.due("count(16)", x.count(16), 3);
        check.due("back() of them", x.back(), -1000);
        check.due("count(9) behind back()", x.count(9), 0);
        check.due("letter again", x.letter('s'), 1);
    }

    private static void statements() {
        HigherMoreLeft x = new HigherMoreLeft();
        check.due("all kinds of statements", Check.tell(x, "if17;h132;m5;s23;o059;"), 5);
        check.due("itch(0)", x.itch(0), 3);
        check.due("itch(1)", x.itch(1), 23);
        check.due("LEFT", x.count(3), 1);
        check.due("BIT", x.count(4), 3);
        check.due("LOT", x.count(5), 2);
        check.due("SEAM", x.count(6), 5);
        check.due("HAND", x.count(1), 23);
        check.due("TIME", x.count(0), 1);
        check.due("sore(23)", x.sore(23), 1);
        check.due("sore(5)", x.sore(5), 9);
        check.due("one more", Check.tell(x, "s05;"), 1);
        check.due("SORE has a most", x.sore(5), 9);
        String kinds = "ichfsn";
        for (int kind = 0; kind < 6; kind++) {
            HigherMoreLeft y = Check.told("i" + kinds.charAt(kind) + "09;");
            check.due("kind " + kinds.charAt(kind), y.itch(0), kind);
            check.due("its cell", y.itch(1), 9);
        }
        HigherMoreLeft gone = Check.told("ih00;s00;");
        check.due("gone", gone.itch(1), 24);
        check.due("an itch again", Check.tell(gone, "ih00;"), 1);
        check.due("it is there", gone.itch(1), 0);
        check.due("twenty strokes", Check.tell(new HigherMoreLeft(), "s01;".repeat(20)), 20);
        check.due("o with 0", Check.tell(gone, "o000;"), 1);
        check.due("SORE told 0", gone.sore(0), 0);
        check.due("a later statement stands", Check.tell(gone, "m1;m4;"), 2);
        check.due("the later SEAM", gone.count(6), 4);
    }

    private static void fault(String text, int want) {
        check.due("back of \"" + text + "\"", Check.tell(new HigherMoreLeft(), text), want);
    }

    private static void letterFaults() {
        fault("", -1000);
        fault(";", -1000);
        fault("x", -1000);
        fault("I", -1000);
        fault(" i", -1000);
        fault("i", -1001);
        fault("ii", -1002);
        fault("ii0", -1003);
        fault("ii00", -1004);
        fault("im00;", -1001);
        fault("iI00;", -1001);
        fault("i000;", -1001);
        fault("ii0:;", -1003);
        fault("ii/0;", -1002);
        fault("ii000", -1004);
        fault("h", -1001);
        fault("h013", -1004);
        fault("h0133", -1004);
        fault("hx", -1001);
        fault("m", -1001);
        fault("m3", -1002);
        fault("m33", -1002);
        fault("s", -1001);
        fault("s0", -1002);
        fault("s00", -1003);
        fault("s000", -1003);
        fault("o", -1001);
        fault("o00", -1003);
        fault("o000", -1004);
        fault("o0000", -1004);
        fault("m3;;", -1003);
        fault("m3;m", -1004);
        fault("m3;\u00ff", -1003);
        fault("m3;s" + (char) 0, -1004);
        fault("s00;".repeat(19) + "s00s", -1079);
        fault("s00;".repeat(19) + "m0;s", -1080);
        fault("m9;x", -1003);
        fault("m9;s", -1004);
    }

    private static void statementFaults() {
        fault("ii24;", -2000);
        fault("ii99;", -2000);
        fault("h213;", -2000);
        fault("h003;", -2000);
        fault("h043;", -2000);
        fault("h011;", -2000);
        fault("h016;", -2000);
        fault("m6;", -2000);
        fault("m9;", -2000);
        fault("s24;", -2000);
        fault("o240;", -2000);
        fault("m5;m6;m7;", -2003);
        fault("ii23;h112;s23;o239;s30;", -2019);
        fault("ii23;h112;s23;o239;", 4);
        fault("h012;h135;h013;m0;m5;ii00;", 6);
    }

    private static void nothingComesWithAFault() {
        HigherMoreLeft x = Check.told("is08;h124;m3;s01;o115;");
        String bad = "if02;h013;m0;s05;o070;s24;";
        check.due("the last statement's fault", Check.tell(x, bad), -2022);
        check.due("KIND stays", x.itch(0), 4);
        check.due("CELL stays", x.itch(1), 9);
        check.due("LEFT stays", x.count(3), 1);
        check.due("BIT stays", x.count(4), 2);
        check.due("LOT stays", x.count(5), 4);
        check.due("SEAM stays", x.count(6), 3);
        check.due("HAND stays", x.count(1), 1);
        check.due("TIME stays", x.count(0), 1);
        check.due("SORE stays", x.count(2), 6);
        check.due("letters are no more", x.count(9), 0);
        for (int what = 11; what <= 16; what++) {
            check.due("a fault is no refusal " + what, x.count(what), 0);
        }
    }

    /** Letters that are no more must not make up for what a shorter text lacks. */
    private static void lettersOfAnEarlierText() {
        HigherMoreLeft x = new HigherMoreLeft();
        check.due("a text", Check.tell(x, "s05;m3;"), 2);
        check.due("one that lacks a digit", Check.tell(x, "s0"), -1002);
        check.due("one that lacks its end", Check.tell(x, "s05"), -1003);
        check.due("one that lacks all but a letter", Check.tell(x, "s05;m"), -1005);
        check.due("none", x.back(), -1000);
        check.due("a shorter text", Check.tell(x, "s05;"), 1);
        check.due("TIME", x.count(0), 2);
    }
}
