/** The edges of promises 10, 11 and 13 to 17: LOT or more apart, the ends of the back, BLIND's round, 40 strokes. */
public final class ReaderEdgeTest {
    private static final Check check = new Check();

    public static void main(String[] args) {
        rowsApart();
        columnsApart();
        rowsGoAheadOfColumns();
        thereAndGone();
        noFartherThanTheBackGoes();
        bitAndLotAtMost();
        blindGoesRound();
        readsAtTheEdges();
        followedByNoneOrOne();
        followedByForty();
        fleaIsNeverGone();
        meanWithSomeNotGone();
        meanInLeastTerms();
        hardestOfSeveral();
        hardestFromEachCorner();
        speakOfSeveral();
        speakAtTheEdges();
        check.end();
    }

    /** "a lot if LOT or more apart", "UP if its row is less" */
    private static void rowsApart() {
        for (int lot = 2; lot <= 5; lot++) {
            for (int left = 0; left <= 1; left++) {
                HigherMoreLeft x = Check.told("h" + left + "1" + lot + ";");
                for (int apart = 1; apart <= 3; apart++) {
                    boolean aLot = apart >= lot;
                    check.due("LOT " + lot + ": down " + apart, x.word(3, 3 + 6 * apart), aLot ? 5 : 1);
                    check.due("LOT " + lot + ": up " + apart, x.word(20, 20 - 6 * apart), aLot ? 4 : 0);
                }
            }
        }
    }

    /** "LEFT if its column is less; by LEFT 1 the other way" */
    private static void columnsApart() {
        for (int lot = 2; lot <= 5; lot++) {
            HigherMoreLeft hers = Check.told("h01" + lot + ";");
            HigherMoreLeft other = Check.told("h11" + lot + ";");
            for (int apart = 1; apart <= 5; apart++) {
                boolean aLot = apart >= lot;
                check.due("LOT " + lot + ": right " + apart, hers.word(6, 6 + apart), aLot ? 7 : 3);
                check.due("LOT " + lot + ": left " + apart, hers.word(23, 23 - apart), aLot ? 6 : 2);
                check.due("LOT " + lot + ": right is left " + apart, other.word(6, 6 + apart), aLot ? 6 : 2);
                check.due("LOT " + lot + ": left is right " + apart, other.word(23, 23 - apart), aLot ? 7 : 3);
            }
        }
    }

    private static void rowsGoAheadOfColumns() {
        HigherMoreLeft x = Check.told("h012;");
        int[][] rows = {{0, 11, 1}, {5, 6, 1}, {6, 5, 0}, {11, 0, 0}, {0, 23, 5}, {23, 0, 4}, {5, 18, 5}, {17, 18, 1}};
        for (int[] row : rows) {
            check.due("word(" + row[0] + ", " + row[1] + ")", x.word(row[0], row[1]), row[2]);
        }
    }

    /** "8 THERE; 9 GONE" */
    private static void thereAndGone() {
        HigherMoreLeft x = new HigherMoreLeft();
        for (int cell = 0; cell < 24; cell++) {
            check.due("word there", x.word(cell, cell), 8);
        }
        check.due("say() there", x.say(), 8);
        x.stroke(0);
        check.due("say() of what is GONE", x.say(), 9);
        check.due("word(0, 0) says nothing of it", x.word(0, 0), 8);
        int[][] refused = {{-1, 0}, {0, -1}, {24, 0}, {0, 24}};
        for (int[] row : refused) {
            check.due("word(" + row[0] + ", " + row[1] + ")", x.word(row[0], row[1]), -1);
        }
    }

    private static void reads(String text, int[][] cells) {
        HigherMoreLeft x = Check.told(text);
        for (int reader = 0; reader < cells.length; reader++) {
            for (int word = 0; word <= 8; word++) {
                String call = text + " reads(" + reader + ", " + word + ", ";
                check.due(call + "0)", x.reads(reader, word, 0), cells[reader][word]);
                check.due(call + "30)", x.reads(reader, word, 30), cells[reader][word]);
            }
        }
    }

    /** "no farther than the back goes", from each corner; LEFT of HE is nothing to a READER. */
    private static void noFartherThanTheBackGoes() {
        int[][] from0 = {
            {0, 6, 0, 1, 0, 12, 0, 2, 0}, {0, 6, 0, 1, 0, 6, 0, 1, 0}, {0, 12, 0, 2, 0, 18, 0, 4, 0},
            {0, 6, 1, 0, 0, 12, 2, 0, 0}, {0, 6, 0, 1, 0, 12, 0, 2, 0}};
        int[][] from5 = {
            {5, 11, 4, 5, 5, 17, 3, 5, 5}, {5, 11, 4, 5, 5, 11, 4, 5, 5}, {5, 17, 3, 5, 5, 23, 1, 5, 5},
            {5, 11, 5, 4, 5, 17, 5, 3, 5}, {5, 11, 4, 5, 5, 17, 3, 5, 5}};
        int[][] from18 = {
            {12, 18, 18, 19, 6, 18, 18, 20, 18}, {12, 18, 18, 19, 12, 18, 18, 19, 18},
            {6, 18, 18, 20, 0, 18, 18, 22, 18}, {12, 18, 19, 18, 6, 18, 20, 18, 18},
            {12, 18, 18, 19, 6, 18, 18, 20, 18}};
        int[][] from23 = {
            {17, 23, 22, 23, 11, 23, 21, 23, 23}, {17, 23, 22, 23, 17, 23, 22, 23, 23},
            {11, 23, 21, 23, 5, 23, 19, 23, 23}, {17, 23, 23, 22, 11, 23, 23, 21, 23},
            {17, 23, 22, 23, 11, 23, 21, 23, 23}};
        for (String he : new String[] {"h012;", "h112;"}) {
            reads(he, from0);
            reads(he + "s05;", from5);
            reads(he + "s18;", from18);
            reads(he + "s23;", from23);
        }
    }

    /** "BIT for a bit, LOT for a lot", "twice as many" up to 6 and 10, and to the very end of the back. */
    private static void bitAndLotAtMost() {
        reads("h035;s07;", new int[][] {
            {1, 19, 6, 10, 1, 19, 6, 11, 7}, {1, 13, 6, 8, 1, 13, 6, 8, 7}, {1, 19, 6, 11, 1, 19, 6, 11, 7},
            {1, 19, 10, 6, 1, 19, 11, 6, 7}, {1, 13, 6, 8, 1, 19, 6, 11, 7}});
        reads("h023;s12;", new int[][] {
            {0, 18, 12, 14, 0, 18, 12, 15, 12}, {6, 18, 12, 13, 6, 18, 12, 13, 12}, {0, 18, 12, 16, 0, 18, 12, 17, 12},
            {0, 18, 14, 12, 0, 18, 15, 12, 12}, {6, 18, 12, 13, 0, 18, 12, 15, 12}});
    }

    /** "CELLS 0, 1, .. one behind the other (round), by what stroke it is (0 first), whatever he says" */
    private static void blindGoesRound() {
        for (int word = 0; word <= 8; word++) {
            HigherMoreLeft x = Check.told("h012;s09;");
            for (int n = 0; n < 24; n++) {
                check.due("BLIND " + n, x.reads(5, word, n), n);
                check.due("BLIND a round on", x.reads(5, word, n + 24), n);
                check.due("BLIND two rounds on", x.reads(5, word, n + 48), n);
            }
            check.due("BLIND greatest int", x.reads(5, word, Integer.MAX_VALUE), 7);
            check.due("BLIND below 0", x.reads(5, word, -1), -4);
        }
    }

    private static void readsAtTheEdges() {
        int[][] rows = {
            {0, 0, 0, 0}, {5, 8, 0, 0}, {0, 8, 0, 0}, {-1, 0, 0, -2}, {6, 0, 0, -2}, {0, -1, 0, -2}, {0, 9, 0, -2},
            {0, 9, -1, -2}, {6, 0, -1, -2}, {0, 0, -1, -4}, {5, 8, -1, -4}};
        HigherMoreLeft x = new HigherMoreLeft();
        for (int[] row : rows) {
            check.due("reads(" + row[0] + ", " + row[1] + ", " + row[2] + ")", x.reads(row[0], row[1], row[2]), row[3]);
        }
        check.due("count(12)", x.count(12), 6);
        check.due("count(14)", x.count(14), 2);
    }

    /** "behind how many strokes (0 .. 40)": none is needed, or one. */
    private static void followedByNoneOrOne() {
        for (int reader = 0; reader < 6; reader++) {
            HigherMoreLeft gone = Check.told("ih05;s05;");
            check.due("follow(" + reader + ") of what is GONE", gone.follow(reader), 0);
            check.due("speak(" + reader + ", 0) of what is GONE", gone.speak(reader, 0), 12);
            check.due("speak(" + reader + ", 1) of what is GONE", gone.speak(reader, 1), 0);
            HigherMoreLeft there = Check.told("ih00;");
            check.due("follow(" + reader + ") there", there.follow(reader), 1);
            check.due("speak(" + reader + ", 1) there", there.speak(reader, 1), 1);
        }
        check.due("follow(-1)", new HigherMoreLeft().follow(-1), -2);
        check.due("follow(6)", new HigherMoreLeft().follow(6), -2);
    }

    /** A SEAM'S one at its SEAM with SORE 1 is GONE when the BLIND one comes by a second time, by 40 or too late. */
    private static void followedByForty() {
        for (int cell = 0; cell < 24; cell++) {
            String text = "m" + cell % 6 + ";is" + Check.two(cell) + ";o" + Check.two(cell);
            int second = cell + 25;
            HigherMoreLeft x = Check.told(text + "1;");
            check.due("BLIND's stroke " + second, x.follow(5), second <= 40 ? second : -9);
            check.due("speak(5, 1) of it", x.speak(5, 1), second <= 40 ? second : 41);
            check.due("speak(5, 0) of it", x.speak(5, 0), 12);
            check.due("BLIND's first time", Check.told(text + "2;").follow(5), cell + 1);
            check.due("BLIND's third time", Check.told(text + "0;").follow(5), -9);
        }
    }

    private static void fleaIsNeverGone() {
        for (int reader = 0; reader < 6; reader++) {
            HigherMoreLeft x = Check.told("if00;");
            check.due("follow(" + reader + ") of a FLEA", x.follow(reader), -9);
            check.due("mean(" + reader + ", 0) of a FLEA", x.mean(reader, 0), 40);
            check.due("mean(" + reader + ", 1) of a FLEA", x.mean(reader, 1), 1);
            check.due("hardest(" + reader + ") of a FLEA", x.hardest(reader), 0);
            check.due("speak(" + reader + ", 0) of a FLEA", x.speak(reader, 0), 12);
            check.due("speak(" + reader + ", 1) of a FLEA", x.speak(reader, 1), 41);
        }
    }

    /**
     * "(.. 40, if it is not GONE by then)": with BIT 2 and LOT 4 what is one row
     * or one or three columns off is gone beyond for ever. The rows of CELLS take
     * 1 40 1 40 1 2, six times 40, 1 40 2 40 2 3 and 2 40 3 40 3 4: 505 in all.
     */
    private static void meanWithSomeNotGone() {
        HigherMoreLeft x = Check.told("h024;ih05;");
        check.due("mean(0, 0)", x.mean(0, 0), 505);
        check.due("mean(0, 1)", x.mean(0, 1), 24);
        check.due("hardest(0)", x.hardest(0), 1);
        check.due("follow(0) of the last column", x.follow(0), 2);
        Check.tell(x, "ih01;");
        check.due("follow(0) of the second", x.follow(0), -9);
        check.due("mean(0, 0) from wherever it is", x.mean(0, 0), 505);
        Check.tell(x, "ih00;s00;");
        check.due("mean(0, 0) of what is GONE", x.mean(0, 0), 505);
        check.due("hardest(0) of what is GONE", x.hardest(0), 1);
    }

    private static void meanInLeastTerms() {
        HigherMoreLeft x = Check.told("ih05;");
        check.due("300 by 24 above", x.mean(5, 0), 25);
        check.due("300 by 24 below", x.mean(5, 1), 2);
        HigherMoreLeft n = Check.told("in05;");
        check.due("24 by 24 above", n.mean(5, 0), 1);
        check.due("24 by 24 below", n.mean(5, 1), 1);
        long refused = 4000000000000000002L;
        int[][] rows = {{-1, 0}, {6, 0}, {0, -1}, {0, 2}, {6, 2}};
        for (int[] row : rows) {
            check.due("mean(" + row[0] + ", " + row[1] + ")", x.mean(row[0], row[1]), refused);
        }
        check.due("count(12)", x.count(12), 5);
    }

    /** "the CELL with the most, of several the least" */
    private static void hardestOfSeveral() {
        check.due("all alike", Check.told("in05;").hardest(0), 0);
        check.due("all at 40", Check.told("if05;").hardest(0), 0);
        check.due("the last alone", Check.told("ih05;").hardest(5), 23);
        // A SLOW one takes FAR strokes: from 8 five to 23 and four to 18, from 9 the other way.
        check.due("from 8", Check.told("ih05;s08;").hardest(1), 23);
        check.due("from 9", Check.told("ih05;s09;").hardest(1), 18);
        check.due("from 6", Check.told("ih05;s06;").hardest(1), 23);
        check.due("from 12", Check.told("ih05;s12;").hardest(1), 5);
        // Two columns or rows are one stroke, one or three of them are never behind one: of these the least is 3.
        check.due("several at 40", Check.told("h022;ih05;s02;").hardest(0), 1);
        check.due("hardest(-1)", new HigherMoreLeft().hardest(-1), -2);
        check.due("hardest(6)", new HigherMoreLeft().hardest(6), -2);
    }

    private static void hardestFromEachCorner() {
        int[][] corners = {{0, 23}, {5, 18}, {18, 5}, {23, 0}};
        for (int[] row : corners) {
            HigherMoreLeft x = Check.told("ih11;s" + Check.two(row[0]) + ";");
            check.due("hardest(1) from " + row[0], x.hardest(1), row[1]);
            check.due("mean(1, 0) from " + row[0], x.mean(1, 0), 97);
            check.due("mean(1, 1) from " + row[0], x.mean(1, 1), 24);
        }
    }

    private static void speak(String text, int reader, int best, int strokes) {
        HigherMoreLeft x = Check.told(text);
        check.due(text + " speak(" + reader + ", 0)", x.speak(reader, 0), best);
        check.due(text + " speak(" + reader + ", 1)", x.speak(reader, 1), strokes);
        check.due("BIT stays", x.count(4), 1);
        check.due("LOT stays", x.count(5), 3);
    }

    /** "that with which FOLLOW is least (41 for none), of several the least" */
    private static void speakOfSeveral() {
        speak("ih01;", 0, 12, 1);
        speak("ih02;", 0, 12, 1);
        speak("ih03;", 0, 13, 1);
        speak("ih04;", 0, 14, 1);
        speak("ih05;", 0, 15, 1);
        speak("ih06;", 0, 12, 1);
        speak("ih12;", 0, 12, 1);
        speak("ih18;", 0, 13, 1);
        speak("ih23;", 0, 35, 2);
        speak("ih23;s23;ih00;", 0, 35, 2);
        speak("ih02;", 2, 13, 1);
        speak("ih04;", 2, 12, 1);
        speak("ih05;", 2, 13, 1);
        // A BIT of 4 would bring the hand to 17 ahead of the itch, and it would be GONE behind 2: 3 is the most.
        speak("m5;s13;is16;o171;", 0, 12, 3);
    }

    private static void speakAtTheEdges() {
        HigherMoreLeft x = Check.told("ih23;");
        int[][] rows = {{0, 0, 35}, {0, 1, 2}, {-1, 0, -2}, {6, 0, -2}, {0, -1, -2}, {0, 2, -2}};
        for (int[] row : rows) {
            check.due("speak(" + row[0] + ", " + row[1] + ")", x.speak(row[0], row[1]), row[2]);
        }
        // BIT 1 with LOT 5 and BIT 3 with LOT 2 are the ends of what is tried: each is the best somewhere.
        check.due("the greatest LOT", Check.told("ih05;").speak(0, 0) % 10, 5);
        check.due("the least LOT", Check.told("ih02;").speak(0, 0) % 10, 2);
        check.due("the greatest BIT", x.speak(0, 0) / 10, 3);
    }
}
