/** The edges of promises 18 to 23 and 29: 8 SAYINGS, WORDS 0 to 8, MAY none and all, each HE, NEXT, TAUGHT. */
public final class SayingEdgeTest {
    private static final Check check = new Check();
    private static final int ALL = 16777215;

    public static void main(String[] args) {
        eightSayings();
        cellsAndWords();
        noSayings();
        mayOfTheFirstAndLastCell();
        mayNone();
        mayByEachLot();
        anyByOneHeForAll();
        lotsOfHe();
        oddsOfNoneAndOne();
        oddsOfEight();
        oddsRefused();
        nextOfTwo();
        nextOfNone();
        taughtOfSeveral();
        taughtOfGone();
        check.end();
    }

    private static HigherMoreLeft said(String text, int... cellsAndWords) {
        HigherMoreLeft x = Check.told(text);
        for (int i = 0; i + 1 < cellsAndWords.length; i += 2) {
            check.due("a SAYING", x.saying(cellsAndWords[i], cellsAndWords[i + 1]), i / 2 + 1);
        }
        return x;
    }

    private static int row(int row) {
        return 63 << 6 * row;
    }

    /** "8 SAYINGS at most" */
    private static void eightSayings() {
        HigherMoreLeft x = new HigherMoreLeft();
        for (int round = 0; round < 2; round++) {
            check.due("hush() of none", x.hush(), 0);
            for (int i = 1; i <= 8; i++) {
                check.due("saying " + i, x.saying(20, 8), i);
                check.due("count(7)", x.count(7), i);
            }
            int[][] rows = {{20, 8, -6}, {0, 0, -6}, {0, 9, -2}, {0, -1, -2}, {24, 0, -1}, {24, 9, -1}, {-1, -1, -1}};
            for (int[] row : rows) {
                check.due("a ninth (" + row[0] + ", " + row[1] + ")", x.saying(row[0], row[1]), row[2]);
            }
            check.due("count(7) of eight", x.count(7), 8);
            check.due("may(0) of eight", x.may(0), 1 << 20);
            check.due("count(16)", x.count(16), 2 * round + 2);
            check.due("count(12)", x.count(12), 2 * round + 2);
            check.due("count(11)", x.count(11), 3 * round + 3);
            check.due("hush() of eight", x.hush(), 8);
        }
        // The eighth is looked at as the first is.
        HigherMoreLeft last = said("m0;", 20, 8, 20, 8, 20, 8, 20, 8, 20, 8, 20, 8, 20, 8, 19, 8);
        check.due("may(0) by the eighth", last.may(0), 0);
        HigherMoreLeft first = said("m0;", 19, 8, 20, 8, 20, 8, 20, 8, 20, 8, 20, 8, 20, 8, 20, 8);
        check.due("may(0) by the first", first.may(0), 0);
    }

    /** "from a CELL a WORD (0 .. 8)" */
    private static void cellsAndWords() {
        int[][] rows = {
            {0, 0, 1}, {0, 8, 1}, {23, 0, 1}, {23, 8, 1}, {0, -1, -2}, {0, 9, -2}, {-1, 0, -1}, {24, 0, -1}, {24, 9, -1}};
        for (int[] row : rows) {
            HigherMoreLeft x = new HigherMoreLeft();
            check.due("saying(" + row[0] + ", " + row[1] + ")", x.saying(row[0], row[1]), row[2]);
            check.due("count(7)", x.count(7), row[2] == 1 ? 1 : 0);
        }
    }

    private static void noSayings() {
        for (String he : new String[] {"h013;", "h135;"}) {
            HigherMoreLeft x = said(he);
            check.due("may(0) of none", x.may(0), ALL);
            check.due("may(1) of none", x.may(1), ALL);
            check.due("heMany() of none", x.heMany(), 8);
            check.due("taught() of none", x.taught(), 2);
            check.due("hush() of none", x.hush(), 0);
        }
    }

    private static void mayOfTheFirstAndLastCell() {
        HigherMoreLeft first = said("h013;", 0, 8);
        HigherMoreLeft last = said("h013;", 23, 8);
        for (int any = 0; any <= 1; any++) {
            check.due("may(" + any + ") of the first", first.may(any), 1);
            check.due("may(" + any + ") of the last", last.may(any), 8388608);
        }
        check.due("may(-1)", first.may(-1), -2);
        check.due("may(2)", first.may(2), -2);
        check.due("no more to the left", said("h013;", 0, 2).may(0), 0);
        check.due("no more above", said("h013;", 5, 0).may(0), 0);
        check.due("no more to the right", said("h013;", 23, 3).may(0), 0);
        check.due("no more below", said("h013;", 23, 1).may(0), 0);
    }

    /** "MAY none": of all that asks for MAY. */
    private static void mayNone() {
        HigherMoreLeft x = said("h012;", 20, 8, 19, 8);
        check.due("may(0)", x.may(0), 0);
        check.due("may(1)", x.may(1), 0);
        check.due("heMany()", x.heMany(), 0);
        check.due("next(0)", x.next(0), -9);
        check.due("next(1)", x.next(1), -9);
        check.due("an odds above", x.odds(20, 0), 36);
        check.due("an odds below", x.odds(20, 1), 83);
        HigherMoreLeft other = said("h012;", 0, 3, 3, 8);
        check.due("may(0), by another HE", other.may(0), 0);
        check.due("may(1), by another HE", other.may(1), 8);
        check.due("next(0), by another HE", other.next(0), -9);
        check.due("next(1), by another HE", other.next(1), -9);
    }

    /** A bit is less than LOT apart, a lot is LOT or more. */
    private static void mayByEachLot() {
        for (int lot = 2; lot <= 5; lot++) {
            int bit = 0;
            int aLot = 0;
            for (int column = 1; column <= 5; column++) {
                bit |= column < lot ? 1 << column : 0;
                aLot |= column >= lot ? 1 << column : 0;
            }
            check.due("right a bit, LOT " + lot, said("h01" + lot + ";", 0, 3).may(0), bit);
            check.due("right a lot, LOT " + lot, said("h01" + lot + ";", 0, 7).may(0), aLot);
            check.due("left is right a bit, LOT " + lot, said("h11" + lot + ";", 0, 2).may(0), bit);
            check.due("left is right a lot, LOT " + lot, said("h11" + lot + ";", 0, 6).may(0), aLot);
        }
        check.due("down a bit, LOT 2", said("h012;", 0, 1).may(0), row(1));
        check.due("down a lot, LOT 2", said("h012;", 0, 5).may(0), row(2) | row(3));
        check.due("down a bit, LOT 3", said("h013;", 0, 1).may(0), row(1) | row(2));
        check.due("down a lot, LOT 3", said("h013;", 0, 5).may(0), row(3));
        check.due("down a bit, LOT 4", said("h014;", 0, 1).may(0), row(1) | row(2) | row(3));
        check.due("down a lot, LOT 4", said("h014;", 0, 5).may(0), 0);
        check.due("up a lot, LOT 5", said("h015;", 23, 4).may(0), 0);
        check.due("up a bit, LOT 5", said("h015;", 23, 0).may(0), row(0) | row(1) | row(2));
    }

    /** "some HE (one for all: LEFT 0, 1, BIT aside, LOT 2 .. 5)" */
    private static void anyByOneHeForAll() {
        check.due("right a bit", said("m0;", 0, 3).may(1), 30);
        check.due("right a lot", said("m0;", 0, 7).may(1), 60);
        check.due("right is left a bit", said("m0;", 0, 2).may(1), 30);
        check.due("right is left a lot", said("m0;", 0, 6).may(1), 60);
        check.due("down a bit", said("m0;", 0, 1).may(1), row(1) | row(2) | row(3));
        check.due("down a lot", said("m0;", 0, 5).may(1), row(2) | row(3));
        check.due("a bit and a lot from one CELL", said("m0;", 0, 3, 0, 7).may(1), 0);
        check.due("left and right from one CELL", said("m0;", 2, 2, 2, 3).may(1), 0);
        check.due("by LOT 5 alone", said("m0;", 4, 8, 0, 3).may(1), 16);
        check.due("by LOT 2 alone", said("m0;", 2, 8, 0, 7).may(1), 4);
        check.due("by LEFT 1 alone", said("h013;", 4, 8, 0, 2).may(1), 16);
        // A lot down to the last row is so by LOT 2 and 3 alone; a bit on is one or two columns then, by LEFT either way.
        int beside21 = 1 << 19 | 1 << 20 | 1 << 22 | 1 << 23;
        check.due("a lot down and a bit on", said("m0;", 0, 5, 21, 3).may(1), beside21);
        check.due("BIT says nothing", said("h033;", 0, 3).may(1), 30);
    }

    /** "with how many of these eight some CELL is so" */
    private static void lotsOfHe() {
        int[][] rows = {
            {19, 8, 20, 8, 0}, {4, 8, 0, 3, 1}, {4, 8, 0, 2, 1}, {3, 8, 0, 3, 2}, {3, 8, 0, 7, 2}, {2, 8, 0, 3, 3},
            {4, 8, 0, 7, 3}, {1, 8, 0, 3, 4}, {5, 8, 0, 7, 4}, {18, 8, 0, 1, 4}, {18, 8, 0, 5, 4}, {12, 8, 0, 5, 2},
            {12, 8, 0, 1, 6}, {6, 8, 0, 1, 8}, {20, 8, 20, 8, 8}};
        for (int[] row : rows) {
            for (String he : new String[] {"h012;", "h135;"}) {
                check.due("heMany() of " + row[0] + " and " + row[3], said(he, row[0], row[1], row[2], row[3]).heMany(), row[4]);
            }
        }
    }

    private static void odds(HigherMoreLeft x, int cell, long above, long below) {
        check.due("odds(" + cell + ", 0)", x.odds(cell, 0), above);
        check.due("odds(" + cell + ", 1)", x.odds(cell, 1), below);
    }

    /** "9 times in 10, each other of 0 .. 8 alike in the rest (1 in 80)": 72 against 1. */
    private static void oddsOfNoneAndOne() {
        for (int cell = 0; cell < 24; cell++) {
            odds(said("m0;"), cell, 1, 24);
            odds(said("m0;", cell, 8), cell, 72, 95);
            odds(said("m0;", cell, 8), (cell + 1) % 24, 1, 95);
        }
        // True nowhere, it is as if nothing had been said.
        odds(said("h013;", 0, 2), 0, 1, 24);
        // True at all of a row, six times 72 and 18: 450.
        odds(said("h013;", 0, 5), 18, 4, 25);
        odds(said("h013;", 0, 5), 0, 1, 450);
    }

    private static void oddsOfEight() {
        HigherMoreLeft seven = said("m0;", 0, 8, 0, 8, 0, 8, 0, 8, 0, 8, 0, 8, 0, 8, 1, 8);
        // 72 to the seventh is 10030613004288; with 72 at CELL 1 and 22 others.
        odds(seven, 0, 5015306502144L, 5015306502191L);
        odds(seven, 1, 36, 5015306502191L);
        odds(seven, 23, 1, 10030613004382L);
    }

    /** "Refused as told: -1; -2" */
    private static void oddsRefused() {
        HigherMoreLeft x = new HigherMoreLeft();
        int[][] rows = {{-1, 0, 1}, {24, 0, 1}, {24, 2, 1}, {0, -1, 2}, {0, 2, 2}, {23, 2, 2}};
        for (int[] row : rows) {
            check.due("odds(" + row[0] + ", " + row[1] + ")", x.odds(row[0], row[1]), 4000000000000000000L + row[2]);
        }
        check.due("count(11)", x.count(11), 3);
        check.due("count(12)", x.count(12), 3);
    }

    private static void next(String text, int cell, int word, int best, int left) {
        HigherMoreLeft x = said(text, cell, word);
        check.due(text + " next(0) of " + cell + ", " + word, x.next(0), best);
        check.due(text + " next(1) of " + cell + ", " + word, x.next(1), left);
    }

    /** "so that, at worst, fewest CELLS of MAY are left, of several the least" */
    private static void nextOfTwo() {
        // CELLS 22 and 23 are a bit and a lot from 20 by LOT 3, from 18 by LOT 5.
        next("h013;", 21, 3, 20, 1);
        next("h015;", 21, 3, 18, 1);
        next("h013;", 2, 2, 0, 1);
        next("h013;", 23, 8, 0, 1);
        next("h013;", 0, 8, 0, 1);
        // Of three in a row only the midst tells each: 21, 22, 23 by LOT 4 from 20.
        next("h014;", 20, 3, 22, 1);
        // All five on from 0 by LEFT 1, a lot: from 2 on it is there, one bit on or a lot on.
        next("h115;", 0, 6, 0, 1);
        HigherMoreLeft x = new HigherMoreLeft();
        check.due("next(-1)", x.next(-1), -2);
        check.due("next(2)", x.next(2), -2);
    }

    private static void nextOfNone() {
        HigherMoreLeft x = said("h013;", 0, 2);
        check.due("next(0)", x.next(0), -9);
        check.due("next(1)", x.next(1), -9);
        check.due("next(2)", x.next(2), -2);
        check.due("count(12)", x.count(12), 1);
        x.hush();
        check.due("next(0) hushed", x.next(0), 0);
        check.due("next(1) hushed", x.next(1), 12);
    }

    /** "that with which most SAYINGS are the WORD for the ITCH where it is, of several the least" */
    private static void taughtOfSeveral() {
        check.due("from LOT 2 on", said("ih05;", 0, 7).taught(), 2);
        check.due("LOT 3 and more", said("ih02;", 0, 3).taught(), 3);
        check.due("LOT 4 and more", said("ih03;", 0, 3).taught(), 4);
        check.due("LOT 5 alone", said("ih04;", 0, 3).taught(), 5);
        check.due("LEFT 1 from LOT 2 on", said("ih05;", 0, 6).taught(), 12);
        check.due("LEFT 1, LOT 3 and more", said("ih02;", 0, 2).taught(), 13);
        check.due("LEFT 1, LOT 4 and more", said("ih03;", 0, 2).taught(), 14);
        check.due("LEFT 1, LOT 5 alone", said("ih04;", 0, 2).taught(), 15);
        check.due("none is true", said("ih04;", 0, 1).taught(), 2);
        check.due("true by a LOT of 1 alone", said("ih01;", 0, 7).taught(), 2);
        check.due("true by a LOT of 6 alone", said("ih05;", 0, 3).taught(), 2);
        check.due("one against one", said("ih04;", 0, 2, 0, 7).taught(), 2);
        check.due("two against one", said("ih04;", 0, 2, 0, 7, 0, 2).taught(), 15);
        check.due("eight", said("ih04;", 0, 2, 0, 2, 0, 2, 0, 2, 0, 7, 0, 7, 0, 7, 0, 2).taught(), 15);
        check.due("HE as it is says nothing", said("h135;ih05;", 0, 7).taught(), 2);
    }

    /** "-3 it is GONE" */
    private static void taughtOfGone() {
        HigherMoreLeft x = said("ih05;s05;", 0, 7);
        check.due("taught() of what is GONE", x.taught(), -3);
        check.due("again", x.taught(), -3);
        check.due("count(13)", x.count(13), 2);
        x.hush();
        check.due("with none said", x.taught(), -3);
        Check.tell(x, "ih05;");
        check.due("told again", x.taught(), 2);
        check.due("count(13) stays", x.count(13), 3);
    }
}
