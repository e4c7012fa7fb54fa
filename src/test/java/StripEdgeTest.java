/** The edges of promises 24 to 28: a STRIP behind none, FEWEST 0 to 3, BEARS of none and one, boxes that are cut into. */
public final class StripEdgeTest {
    private static final Check check = new Check();

    public static void main(String[] args) {
        stripsAtTheEdges();
        stripsToEachCell();
        stripsBehindNone();
        bestOfSeveral();
        fewestNone();
        fewestOne();
        fewestTwoAndThree();
        fewestNever();
        fewestAtTheEdges();
        bearsBySore();
        bearsBySoreAround();
        bearsRefused();
        gridOfEachNumberOfBoxes();
        gridRefused();
        check.end();
    }

    /** "STRIP s: row s (0 .. 3), column s less 4 (4 .. 9)" */
    private static void stripsAtTheEdges() {
        HigherMoreLeft x = Check.told("in08;");
        int[][] rows = {{-1, -1}, {0, 1}, {3, 1}, {4, 1}, {9, 1}, {10, -1}};
        for (int[] row : rows) {
            check.due("strip(" + row[0] + ")", x.strip(row[0]), row[1]);
        }
        check.due("count(11)", x.count(11), 2);
    }

    /** "its CELLS stroked one behind the other, the least first": up to 6 of a row, up to 4 of a column. */
    private static void stripsToEachCell() {
        for (int row = 0; row < 4; row++) {
            for (int column = 0; column < 6; column++) {
                HigherMoreLeft x = Check.told("ih" + Check.two(6 * row + column) + ";");
                for (int s = 0; s <= 9; s++) {
                    int want = s == row ? column + 1 : s == 4 + column ? row + 1 : -9;
                    check.due("strip(" + s + ") to " + row + ", " + column, x.strip(s), want);
                }
                int best = column <= row ? row : 4 + column;
                check.due("bestStrip() to " + row + ", " + column, x.bestStrip(), best);
            }
        }
    }

    /** "(0 it is); -9 behind none" */
    private static void stripsBehindNone() {
        HigherMoreLeft gone = Check.told("ih23;s23;");
        HigherMoreLeft flea = Check.told("if23;");
        for (int s = 0; s <= 9; s++) {
            check.due("strip(" + s + ") of what is GONE", gone.strip(s), 0);
            check.due("strip(" + s + ") of a FLEA", flea.strip(s), -9);
        }
        check.due("bestStrip() of what is GONE", gone.bestStrip(), 0);
        check.due("bestStrip() of a FLEA", flea.bestStrip(), -9);
        // The last stroke of the last STRIPS is the one: SORE enough, or not.
        HigherMoreLeft last = Check.told("is23;m5;o232;");
        check.due("the last of a row", last.strip(3), 6);
        check.due("the last of a column", last.strip(9), 4);
        check.due("bestStrip()", last.bestStrip(), 9);
        HigherMoreLeft less = Check.told("is23;m5;o231;");
        check.due("not SORE enough in a row", less.strip(3), -9);
        check.due("not SORE enough in a column", less.strip(9), -9);
        check.due("bestStrip() of none", less.bestStrip(), -9);
    }

    /** "BEST: the STRIP with the fewest, of several the first" */
    private static void bestOfSeveral() {
        check.due("a row and a column alike", Check.told("ih00;").bestStrip(), 0);
        check.due("a later row and column alike", Check.told("ih21;").bestStrip(), 3);
        check.due("all alike", Check.told("in12;").bestStrip(), 0);
        check.due("a column alone", Check.told("ih05;").bestStrip(), 9);
        check.due("a row alone", Check.told("ih18;").bestStrip(), 3);
    }

    private static void fewest(String text, int strokes, int first) {
        HigherMoreLeft x = Check.told(text);
        check.due(text + " fewest(0)", x.fewest(0), strokes);
        check.due(text + " fewest(1)", x.fewest(1), first);
    }

    /** "(-9 none is needed ..)" */
    private static void fewestNone() {
        fewest("ii00;s00;", 0, -9);
        fewest("ih23;s23;", 0, -9);
        fewest("in00;s23;", 0, -9);
        fewest("is00;o002;s00;", 0, -9);
    }

    private static void fewestOne() {
        for (int cell = 0; cell < 24; cell++) {
            fewest("ii" + Check.two(cell) + ";", 1, cell);
            fewest("ic" + Check.two(cell) + ";", 1, cell);
            fewest("ih" + Check.two(cell) + ";", 1, cell);
            fewest("in" + Check.two(cell) + ";", 1, 0);
            fewest("is" + Check.two(cell) + ";o" + Check.two(cell) + "2;", 1, cell);
        }
    }

    /** A SEAM'S one at its SEAM stays, so all the strokes are on its CELL; else it can be brought to a sore one. */
    private static void fewestTwoAndThree() {
        for (int cell : new int[] {0, 5, 8, 18, 23}) {
            String text = "m" + cell % 6 + ";is" + Check.two(cell) + ";";
            fewest(text, 3, cell);
            fewest(text + "o" + Check.two(cell) + "1;", 2, cell);
            fewest(text + "o" + Check.two(cell) + "2;", 1, cell);
        }
        fewest("is01;o002;", 2, 0);
        fewest("is23;o222;", 2, 0);
        fewest("is22;o202;", 3, 0);
        // No stroke elsewhere helps first: it is struck where it is, or goes to a CELL that is not SORE.
        fewest("m5;is22;o221;", 2, 22);
        fewest("m5;is18;o181;", 2, 18);
    }

    /** "(.. or it can not be)" */
    private static void fewestNever() {
        for (int cell = 0; cell < 24; cell += 5) {
            fewest("if" + Check.two(cell) + ";", -9, -9);
            fewest("if" + Check.two(cell) + ";o" + Check.two(cell) + "9;", -9, -9);
        }
    }

    private static void fewestAtTheEdges() {
        for (String text : new String[] {"ih00;", "ih00;s00;", "if00;"}) {
            HigherMoreLeft x = Check.told(text);
            check.due("fewest(-1)", x.fewest(-1), -2);
            check.due("fewest(2)", x.fewest(2), -2);
            check.due("count(12)", x.count(12), 2);
        }
    }

    private static void bears(HigherMoreLeft x, int one, int other, int want) {
        check.due("bears(" + one + ", " + other + ")", x.bears(one, other), want);
        check.due("bears(" + other + ", " + one + ")", x.bears(other, one), want);
    }

    /** "that with less SORE" */
    private static void bearsBySore() {
        for (int sore = 0; sore < 9; sore++) {
            HigherMoreLeft x = Check.told("o00" + (sore + 1) + ";o23" + sore + ";");
            bears(x, 0, 23, 23);
            HigherMoreLeft alike = Check.told("o00" + sore + ";o23" + sore + ";");
            bears(alike, 0, 23, 0);
        }
        // Less SORE goes ahead of less around it, however much that is.
        HigherMoreLeft around = Check.told("o019;o069;o231;");
        bears(around, 0, 23, 0);
        bears(new HigherMoreLeft(), 22, 23, 22);
        bears(new HigherMoreLeft(), 0, 23, 0);
    }

    /** "if alike with less SORE of all CELLS FAR 1 of it together; if alike the lesser" */
    private static void bearsBySoreAround() {
        for (int sore = 0; sore < 24; sore++) {
            for (int one = 0; one < 24; one++) {
                HigherMoreLeft x = Check.told("o" + Check.two(sore) + "1;");
                for (int other = one + 1; other < 24; other++) {
                    if (one != sore && other != sore) {
                        boolean oneIsBeside = x.far(one, sore) == 1;
                        boolean otherIsBeside = x.far(other, sore) == 1;
                        bears(x, one, other, oneIsBeside && !otherIsBeside ? other : one);
                    }
                }
            }
        }
        // Together: two of 1 against one of 2, four of 1 against one of 5.
        bears(Check.told("o011;o061;o172;"), 0, 23, 0);
        bears(Check.told("o021;o071;o091;o141;o175;"), 8, 23, 8);
        bears(Check.told("o021;o071;o091;o141;o173;"), 8, 23, 23);
        bears(Check.told("o021;o071;o091;o142;o175;"), 8, 23, 8);
        bears(Check.told("o019;o069;o179;o228;"), 0, 23, 23);
        // A CELL's own SORE is not around it.
        bears(Check.told("o009;o239;o221;"), 0, 23, 0);
    }

    /** "-1 either (one twice, too)" */
    private static void bearsRefused() {
        HigherMoreLeft x = new HigherMoreLeft();
        int[][] rows = {{-1, 0}, {0, -1}, {24, 0}, {0, 24}, {0, 0}, {23, 23}, {-1, -1}, {24, 24}};
        for (int[] row : rows) {
            check.due("bears(" + row[0] + ", " + row[1] + ")", x.bears(row[0], row[1]), -1);
        }
        check.due("count(11)", x.count(11), rows.length);
    }

    /** "row r is of box r times a by 4, cut, column c of box c times b by 6, cut" */
    private static void gridOfEachNumberOfBoxes() {
        int[][] rowsOfBoxes = {{0, 0, 0, 0}, {0, 0, 1, 1}, {0, 0, 1, 2}, {0, 1, 2, 3}};
        int[][] columnsOfBoxes = {
            {0, 0, 0, 0, 0, 0}, {0, 0, 0, 1, 1, 1}, {0, 0, 1, 1, 2, 2}, {0, 0, 1, 2, 2, 3}, {0, 0, 1, 2, 3, 4},
            {0, 1, 2, 3, 4, 5}};
        for (int a = 1; a <= 4; a++) {
            for (int b = 1; b <= 6; b++) {
                HigherMoreLeft x = new HigherMoreLeft();
                for (int cell = 0; cell < 24; cell++) {
                    int row = rowsOfBoxes[a - 1][cell / 6];
                    int column = columnsOfBoxes[b - 1][cell % 6];
                    int many = howMany(rowsOfBoxes[a - 1], row) * howMany(columnsOfBoxes[b - 1], column);
                    String call = "grid(" + a + ", " + b + ", " + cell + ", ";
                    check.due(call + "0)", x.grid(a, b, cell, 0), b * row + column);
                    check.due(call + "1)", x.grid(a, b, cell, 1), many);
                }
            }
        }
    }

    private static int howMany(int[] boxes, int box) {
        int many = 0;
        for (int other : boxes) {
            many += other == box ? 1 : 0;
        }
        return many;
    }

    /** "-4 (a, b below 1); -6 (4; 6); -1; -2" */
    private static void gridRefused() {
        int[][] rows = {
            {0, 1, 0, 0, -4}, {1, 0, 0, 0, -4}, {0, 7, 0, 0, -4}, {5, 0, 0, 0, -4}, {0, 0, 24, 2, -4}, {-1, 6, 0, 0, -4},
            {5, 6, 0, 0, -6}, {4, 7, 0, 0, -6}, {5, 7, 24, 2, -6}, {5, 1, -1, -1, -6}, {1, 7, -1, -1, -6},
            {4, 6, -1, 0, -1}, {4, 6, 24, 0, -1}, {1, 1, 24, 2, -1}, {1, 1, -1, -1, -1},
            {4, 6, 23, 2, -2}, {1, 1, 0, -1, -2}, {4, 6, 23, 1, 1}, {1, 1, 0, 1, 24}};
        HigherMoreLeft x = new HigherMoreLeft();
        for (int[] row : rows) {
            String call = "grid(" + row[0] + ", " + row[1] + ", " + row[2] + ", " + row[3] + ")";
            check.due(call, x.grid(row[0], row[1], row[2], row[3]), row[4]);
        }
        int[] counts = {4, 2, 0, 6, 0, 5};
        for (int i = 0; i < counts.length; i++) {
            check.due("count(" + (11 + i) + ")", x.count(11 + i), counts[i]);
        }
    }
}
