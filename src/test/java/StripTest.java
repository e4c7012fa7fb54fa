/** Promises 24 to 28: STRIPS, FEWEST, BEARS, GRID. */
public final class StripTest {
    private static final Check check = new Check();

    public static void main(String[] args) {
        strips();
        fewest();
        bears();
        grid();
        check.end();
    }

    private static void strips(String text, int best, int... strokes) {
        HigherMoreLeft x = Check.told(text);
        for (int s = 0; s < 10; s++) {
            check.due(text + " strip(" + s + ")", x.strip(s), strokes[s]);
        }
        check.due(text + " bestStrip()", x.bestStrip(), best);
        check.due("nothing moved", x.itch(1), Check.told(text).itch(1));
        check.due("no SORE came", x.count(2), Check.told(text).count(2));
    }

    private static void strips() {
        strips("ih08;", 6, -9, 3, -9, -9, -9, -9, 2, -9, -9, -9);
        strips("ih00;", 0, 1, -9, -9, -9, 1, -9, -9, -9, -9, -9);
        strips("ih18;", 3, -9, -9, -9, 1, 4, -9, -9, -9, -9, -9);
        strips("ih23;", 9, -9, -9, -9, 6, -9, -9, -9, -9, -9, 4);
        strips("ih23;s23;", 0, 0, 0, 0, 0, 0, 0, 0, 0, 0, 0);
        strips("in23;", 0, 1, 1, 1, 1, 1, 1, 1, 1, 1, 1);
        strips("if23;", -9, -9, -9, -9, -9, -9, -9, -9, -9, -9, -9);
        // It flees before the hand along its row, and is caught at the edge.
        strips("ii08;", 6, -9, 6, -9, -9, -9, -9, 2, -9, -9, -9);
        // It creeps from 2 to 8 by the first stroke, and from 10 to 16 by the fourth.
        strips("ic02;", 6, -9, -9, -9, -9, -9, -9, 1, -9, -9, -9);
        strips("is08;", -9, -9, -9, -9, -9, -9, -9, -9, -9, -9, -9);
        // The first stroke brings it to 12; there is no strip behind column 5.
        strips("is13;o122;", 4, -9, -9, -9, -9, 3, -9, -9, -9, -9, -9);
        strips("is08;m2;o082;", 6, -9, 3, -9, -9, -9, -9, 2, -9, -9, -9);
    }

    private static void fewest(String text, int strokes, int first) {
        HigherMoreLeft x = Check.told(text);
        check.due(text + " fewest(0)", x.fewest(0), strokes);
        check.due(text + " fewest(1)", x.fewest(1), first);
        check.due("nothing moved", x.itch(1), Check.told(text).itch(1));
        check.due("no SORE came", x.count(2), Check.told(text).count(2));
    }

    private static void fewest() {
        fewest("ih08;s08;", 0, -9);
        fewest("ih08;", 1, 8);
        fewest("ii23;", 1, 23);
        fewest("ic13;", 1, 13);
        fewest("in08;", 1, 0);
        fewest("if08;", -9, -9);
        // Twice 6, and it is there: 7 thrice and 8 thrice do as well, but are not first.
        fewest("is08;", 3, 6);
        fewest("is08;o082;", 1, 8);
        fewest("is08;o081;m2;", 2, 8);
        // One stroke anywhere brings it to the SEAM's side, where it is sore enough.
        fewest("is08;o072;", 2, 0);
        fewest("is08;o071;", 2, 7);
        fewest("is08;o081;o072;", 2, 0);
        fewest("is08;o062;", 3, 0);
        fewest("is08;m5;o111;", 3, 8);
        fewest("is08;m5;o102;", 3, 0);
        fewest("is08;m5;o112;", 3, 8);
        // Stroked where it comes to, it is sore enough one stroke sooner.
        fewest("is08;m5;o091;", 2, 9);
        fewest("is08;m5;", 3, 8);
    }

    private static void bears() {
        HigherMoreLeft x = Check.told("o031;o203;o092;");
        check.due("less SORE", x.bears(3, 20), 3);
        check.due("less SORE, the other way", x.bears(20, 3), 3);
        check.due("none is less", x.bears(20, 0), 0);
        check.due("alike, less around", x.bears(8, 10), 8);
        check.due("alike around: the lesser", x.bears(23, 0), 0);
        check.due("alike around: the lesser, as told", x.bears(0, 23), 0);
        check.due("around: 2 has one, 4 has one", x.bears(4, 2), 2);
        check.due("around: 14 has 3, 15 has 2", x.bears(14, 15), 15);
        check.due("around: 11 is beside none, 5 neither", x.bears(11, 5), 5);
        check.due("rows do not join", x.bears(19, 18), 18);
        HigherMoreLeft edge = Check.told("o054;");
        check.due("1 is beside 0", Check.told("o004;").bears(1, 2), 2);
        check.due("22 is beside 23", Check.told("o234;").bears(22, 21), 21);
        check.due("6 is not beside 5", edge.bears(6, 4), 6);
        check.due("one twice", x.bears(7, 7), -1);
        check.due("no CELL twice", x.bears(24, 24), -1);
    }

    private static void grid() {
        HigherMoreLeft x = new HigherMoreLeft();
        int[][] rows = {
            // a, b, cell, box, cells
            {1, 1, 17, 0, 24}, {4, 6, 17, 17, 1}, {1, 6, 17, 5, 4}, {4, 1, 17, 2, 6},
            {2, 2, 8, 0, 6}, {2, 2, 9, 1, 6}, {2, 2, 14, 2, 6}, {2, 2, 23, 3, 6},
            {3, 4, 0, 0, 4}, {3, 4, 2, 1, 2}, {3, 4, 3, 2, 4}, {3, 4, 12, 4, 2}, {3, 4, 20, 9, 1},
            {2, 5, 0, 0, 4}, {2, 5, 5, 4, 2}, {2, 5, 13, 5, 4}, {2, 5, 14, 6, 2}, {2, 3, 23, 5, 4},
        };
        for (int[] row : rows) {
            String call = "grid(" + row[0] + ", " + row[1] + ", " + row[2] + ", ";
            check.due(call + "0)", x.grid(row[0], row[1], row[2], 0), row[3]);
            check.due(call + "1)", x.grid(row[0], row[1], row[2], 1), row[4]);
        }
    }
}
