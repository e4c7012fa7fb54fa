/** The edges of promises 30 to 33: a ROW of none and 20, JUDGED and KINDS of it, EVENINGS 1 to 20, DRAWS as ints. */
public final class RowEdgeTest {
    private static final Check check = new Check();

    public static void main(String[] args) {
        numbersOfTheRow();
        twentyInTheRow();
        emptyRow();
        fullRowJudged();
        firstThatIsNotSo();
        goneInTheRow();
        judgedTwice();
        kindsOfAFullRow();
        kindsNoneAndAll();
        kindsOfWhatIsGone();
        eveningsAtTheEdges();
        drawsByHand();
        drawsBecomeInts();
        eveningsAtMost();
        eveningsBeginAlike();
        check.end();
    }

    private static HigherMoreLeft rowOn(String text, int... numbers) {
        HigherMoreLeft x = Check.told(text);
        for (int i = 0; i < numbers.length; i++) {
            check.due("row(" + numbers[i] + ")", x.row(numbers[i]), i + 1);
        }
        return x;
    }

    private static int[] twenty(int number) {
        int[] numbers = new int[20];
        java.util.Arrays.fill(numbers, number);
        return numbers;
    }

    /** "0 .. 24": "-4; -6 (24 ..)" */
    private static void numbersOfTheRow() {
        int[][] rows = {{0, 1}, {1, 1}, {23, 1}, {24, 1}, {-1, -4}, {25, -6}};
        for (int[] row : rows) {
            HigherMoreLeft x = new HigherMoreLeft();
            check.due("row(" + row[0] + ")", x.row(row[0]), row[1]);
            check.due("count(8)", x.count(8), row[1] == 1 ? 1 : 0);
            check.due("count(14)", x.count(14), row[1] == -4 ? 1 : 0);
            check.due("count(16)", x.count(16), row[1] == -6 ? 1 : 0);
        }
    }

    /** "20 at most" */
    private static void twentyInTheRow() {
        HigherMoreLeft x = new HigherMoreLeft();
        for (int round = 1; round <= 2; round++) {
            for (int i = 1; i <= 20; i++) {
                check.due("row " + i, x.row(24), i);
                check.due("count(8)", x.count(8), i);
            }
            int[][] rows = {{0, -6}, {24, -6}, {25, -6}, {-1, -4}};
            for (int[] row : rows) {
                check.due("the 21st: row(" + row[0] + ")", x.row(row[0]), row[1]);
            }
            check.due("count(8) of 20", x.count(8), 20);
            check.due("count(16)", x.count(16), 3 * round);
            check.due("count(14)", x.count(14), round);
            check.due("judge() of 20", x.judge(), -9);
            check.due("count(8) judged", x.count(8), 0);
        }
    }

    private static void emptyRow() {
        for (String text : new String[] {"ii00;", "if23;", "ih05;s05;"}) {
            HigherMoreLeft x = rowOn(text);
            check.due("kinds() of none", x.kinds(), 63);
            check.due("judge() of none", x.judge(), -9);
            check.due("judge() again", x.judge(), -9);
            check.due("count(8)", x.count(8), 0);
        }
    }

    /** A FLEA in the last row goes across it and back with each stroke in the first row. */
    private static int[] acrossAndBack() {
        int[] numbers = new int[20];
        for (int i = 0; i < 20; i++) {
            numbers[i] = i % 2 == 0 ? 23 : 18;
        }
        return numbers;
    }

    private static void fullRowJudged() {
        check.due("judge() of a full ROW", rowOn("if18;", acrossAndBack()).judge(), -9);
        check.due("judge() of 20 GONE", rowOn("ih00;", twenty(24)).judge(), -9);
        check.due("judge() of 20 alike", rowOn("ih08;", twenty(8)).judge(), -9);
    }

    /** "the first that is not so", at each place of a full ROW and at the end of each shorter one. */
    private static void firstThatIsNotSo() {
        for (int i = 0; i < 20; i++) {
            int[] numbers = acrossAndBack();
            numbers[i] = 24;
            check.due("judge() with number " + i + " wrong", rowOn("if18;", numbers).judge(), i);
            numbers[19] = 0;
            check.due("judge() with number " + i + " and the last wrong", rowOn("if18;", numbers).judge(), i);
            int[] shorter = java.util.Arrays.copyOf(numbers, i + 1);
            check.due("judge() of " + (i + 1), rowOn("if18;", shorter).judge(), i);
            int[] less = java.util.Arrays.copyOf(acrossAndBack(), i);
            check.due("judge() of " + i, rowOn("if18;", less).judge(), -9);
        }
    }

    /** "(24 GONE)" */
    private static void goneInTheRow() {
        check.due("GONE at once", rowOn("ii00;", 24).judge(), -9);
        check.due("not GONE at once", rowOn("ii00;", 0).judge(), 0);
        check.due("not GONE", rowOn("ii01;", 24).judge(), 0);
        check.due("GONE by the third", rowOn("is00;", 0, 0, 24, 24).judge(), -9);
        check.due("not by the second", rowOn("is00;", 0, 24, 24).judge(), 1);
        check.due("on HAND 23", rowOn("ii00;s23;ii23;", 24).judge(), -9);
        check.due("GONE already", rowOn("ii00;s00;", 24, 24).judge(), -9);
        check.due("GONE already, not there", rowOn("ii00;s00;", 24, 0).judge(), 1);
    }

    /** "whichever it answers, the ROW has none then" */
    private static void judgedTwice() {
        int[][] rows = {{23, 18, 23}, {0, 18, 23}, {23, 0, 23}, {23, 18, 0}};
        int[] due = {-9, 0, 1, 2};
        for (int i = 0; i < rows.length; i++) {
            HigherMoreLeft x = rowOn("if18;", rows[i]);
            check.due("judge()", x.judge(), due[i]);
            check.due("count(8)", x.count(8), 0);
            check.due("judge() of none", x.judge(), -9);
            check.due("kinds() of none", x.kinds(), 63);
            check.due("row again", x.row(0), 1);
            check.due("judge() of the new", x.judge(), 0);
            check.due("nothing moved", x.itch(1), 18);
            check.due("no TIME went", x.count(0), 0);
            check.due("no SORE came", x.count(2), 0);
        }
    }

    private static void kindsOfAFullRow() {
        HigherMoreLeft flea = rowOn("ih18;", acrossAndBack());
        check.due("kinds() of a FLEA's", flea.kinds(), 8);
        check.due("the ROW stays", flea.count(8), 20);
        check.due("kinds() again", flea.kinds(), 8);
        check.due("the KIND stays", flea.itch(0), 2);
        int[] last = acrossAndBack();
        last[19] = 23;
        check.due("kinds() with the last wrong", rowOn("ih18;", last).kinds(), 0);
        check.due("kinds() of 20 that stay", rowOn("if08;m2;", twenty(8)).kinds(), 1 + 4 + 16);
        check.due("kinds() of 20 GONE", rowOn("if00;", twenty(24)).kinds(), 1 + 2 + 4 + 32);
        check.due("kinds() of 20 GONE by any stroke", rowOn("if08;", twenty(24)).kinds(), 32);
    }

    private static void kindsNoneAndAll() {
        check.due("all", rowOn("if08;").kinds(), 63);
        check.due("none", rowOn("if08;", 0).kinds(), 0);
        check.due("the first that is wrong", rowOn("if08;", 0, 8, 8).kinds(), 0);
        // From 8: CREEPING and a FLEA go down, a SEAM'S one to 7, NOTHING goes, ITCH and HAIR stay.
        check.due("of 8", rowOn("if08;", 8).kinds(), 1 + 4);
        check.due("of 14", rowOn("if08;", 14).kinds(), 2 + 8);
        check.due("of 7", rowOn("if08;", 7).kinds(), 16);
        check.due("of 24", rowOn("if08;", 24).kinds(), 32);
    }

    private static void kindsOfWhatIsGone() {
        check.due("GONE", rowOn("ih05;s05;", 24).kinds(), 63);
        check.due("GONE, not there", rowOn("ih05;s05;", 5).kinds(), 0);
    }

    /** "n (1 .. 20)": "-2; -4; -6 20" */
    private static void eveningsAtTheEdges() {
        int[][] rows = {
            {0, 0, -4}, {0, -1, -4}, {0, 21, -6}, {-1, 1, -2}, {6, 1, -2}, {6, 0, -2}, {6, 21, -2}, {5, 1, 1}, {5, 20, 20},
            {0, 1, 1}, {0, 20, 20}, {0, Integer.MIN_VALUE, -4}, {0, Integer.MAX_VALUE, -6}};
        HigherMoreLeft x = Check.told("in05;");
        for (int[] row : rows) {
            check.due("evenings(" + row[0] + ", " + row[1] + ", 9)", x.evenings(row[0], row[1], 9), row[2]);
        }
        check.due("count(12)", x.count(12), 4);
        check.due("count(14)", x.count(14), 3);
        check.due("count(16)", x.count(16), 2);
    }

    /** "A DRAW below m": 1013904223 by 256, cut, is 3960563, and that modulo 24 is 11. The BLIND one takes one more. */
    private static void drawsByHand() {
        HigherMoreLeft x = Check.told("ih05;");
        int[][] rows = {{0, 11, 9, 6}, {1, 9, 21, 9}, {7, 21, 17, 8}, {255, 18, 13, 9}, {256, 16, 2, 11}};
        for (int[] row : rows) {
            check.due("one DRAW of " + row[0], x.evenings(5, 1, row[0]), row[1] + 1);
            check.due("two DRAWS of " + row[0], x.evenings(5, 2, row[0]), row[1] + row[2] + 2);
            check.due("three DRAWS of " + row[0], x.evenings(5, 3, row[0]), row[1] + row[2] + row[3] + 3);
        }
        check.due("twenty DRAWS of 0", x.evenings(5, 20, 0), 250);
        check.due("twenty DRAWS of 256", x.evenings(5, 20, 256), 278);
    }

    /** "(an int); (z without its sign's bit ..)": seeds below 0 and at an int's ends. */
    private static void drawsBecomeInts() {
        HigherMoreLeft x = Check.told("ih05;");
        int least = Integer.MIN_VALUE;
        int greatest = Integer.MAX_VALUE;
        int[][] rows = {
            {-1, 13, 20, 20}, {greatest, 13, 20, 20}, {least, 11, 9, 6}, {1013904223, 9, 6, 11}, {-1013904223, 13, 11, 2}};
        for (int[] row : rows) {
            check.due("one DRAW of " + row[0], x.evenings(5, 1, row[0]), row[1] + 1);
            check.due("two DRAWS of " + row[0], x.evenings(5, 2, row[0]), row[1] + row[2] + 2);
            check.due("three DRAWS of " + row[0], x.evenings(5, 3, row[0]), row[1] + row[2] + row[3] + 3);
        }
    }

    /** "(40, if it is not GONE by then)" */
    private static void eveningsAtMost() {
        HigherMoreLeft x = Check.told("if05;");
        for (int reader = 0; reader < 6; reader++) {
            check.due("one EVENING of a FLEA", x.evenings(reader, 1, 3), 40);
            check.due("twenty EVENINGS of a FLEA", x.evenings(reader, 20, 3), 800);
        }
        // With BIT 2 and LOT 4 CELL 11 is never come to, 21 by 3 strokes, 18 by 2: DRAWS of 0, 7 and 255.
        HigherMoreLeft two = Check.told("ih05;h024;");
        check.due("CELL 11", two.evenings(0, 1, 0), 40);
        check.due("CELL 18", two.evenings(0, 1, 255), 2);
        check.due("CELLS 18 and 13", two.evenings(0, 2, 255), 42);
    }

    /** "each with .. HAND 0, all else as it is": SORE and TIME are each evening's as they are now. */
    private static void eveningsBeginAlike() {
        // SEAM'S at CELL 11 goes to 6, where it is SORE enough: struck by BLIND at 6 on stroke 7.
        HigherMoreLeft seams = Check.told("is00;o062;s23;");
        check.due("one EVENING of a SEAM'S one", seams.evenings(5, 1, 0), 7);
        check.due("it goes on alike", seams.evenings(5, 1, 0), 7);
        check.due("SORE stays", seams.sore(6), 2);
        check.due("HAND stays", seams.count(1), 23);
        check.due("TIME stays", seams.count(0), 1);
        check.due("CELL stays", seams.itch(1), 0);
        HigherMoreLeft gone = Check.told("ih05;s05;");
        check.due("an EVENING of what is GONE", gone.evenings(5, 1, 0), 12);
        check.due("it stays GONE", gone.itch(1), 24);
    }
}
