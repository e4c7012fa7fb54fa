/** Promises 18 to 23 and 29: SAYINGS, MAY, ANY, LOTS of HE, ODDS, NEXT, TAUGHT. */
public final class SayingTest {
    private static final Check check = new Check();
    private static final int ALL = (1 << 24) - 1;

    public static void main(String[] args) {
        sayings();
        may();
        any();
        odds();
        next();
        taught();
        check.end();
    }

    private static HigherMoreLeft said(String text, int... cellsAndWords) {
        HigherMoreLeft x = Check.told(text);
        for (int i = 0; i + 1 < cellsAndWords.length; i += 2) {
            x.saying(cellsAndWords[i], cellsAndWords[i + 1]);
        }
        return x;
    }

    private static int bits(int... cells) {
        int bits = 0;
        for (int cell : cells) {
            bits |= 1 << cell;
        }
        return bits;
    }

    private static void sayings() {
        HigherMoreLeft x = new HigherMoreLeft();
        check.due("hush() of none", x.hush(), 0);
        for (int i = 1; i <= 8; i++) {
            check.due("saying " + i, x.saying(i, i), i);
            check.due("count(7)", x.count(7), i);
        }
        check.due("saying 9", x.saying(0, 0), -6);
        check.due("saying 9 of no WORD", x.saying(0, 9), -2);
        check.due("saying 9 of no CELL", x.saying(24, 9), -1);
        check.due("hush()", x.hush(), 8);
        check.due("count(7) hushed", x.count(7), 0);
        check.due("may(0) hushed", x.may(0), ALL);
        check.due("saying again", x.saying(23, 8), 1);
    }

    private static void may() {
        check.due("may(0) of none", said("m0;").may(0), ALL);
        HigherMoreLeft x = said("h013;", 6, 3);
        check.due("right a bit", x.may(0), bits(7, 8));
        x.he(0, 1);
        check.due("right a bit, LEFT 1", x.may(0), 0);
        x.he(0, 0);
        x.he(2, 2);
        check.due("right a bit, LOT 2", x.may(0), bits(7));
        x.he(2, 5);
        check.due("right a bit, LOT 5", x.may(0), bits(7, 8, 9, 10));
        check.due("and from 10 left a bit", x.saying(10, 2), 2);
        check.due("both", x.may(0), bits(7, 8, 9));
        x.he(2, 2);
        check.due("both, LOT 2", x.may(0), 0);
        check.due("up a lot", said("h013;", 20, 4).may(0), bits(0, 1, 2, 3, 4, 5));
        check.due("there", said("h013;", 20, 8).may(0), bits(20));
        check.due("there and elsewhere", said("h013;", 20, 8, 19, 8).may(0), 0);
        check.due("where it is says nothing", said("ih05;s05;", 20, 8).may(0), bits(20));
    }

    private static void any() {
        check.due("may(1) of none", said("m0;").may(1), ALL);
        check.due("heMany() of none", said("m0;").heMany(), 8);
        HigherMoreLeft x = said("m0;", 6, 3);
        check.due("right a bit by any", x.may(1), bits(7, 8, 9, 10));
        check.due("heMany()", x.heMany(), 4);
        check.due("right a bit, in the midst", said("m0;", 8, 3).may(1), bits(6, 7, 9, 10, 11));
        check.due("heMany() in the midst", said("m0;", 8, 3).heMany(), 8);
        // 9 is a bit from 6 by LOT 4 or 5, a lot by 2 or 3: not both by one HE.
        HigherMoreLeft y = said("m0;", 6, 3, 12, 5);
        check.due("a bit, but down", y.may(1), 0);
        check.due("heMany() of none true", y.heMany(), 0);
        // From 6 right a bit (not 2), from 11 left a lot: apart by LOT alone.
        HigherMoreLeft z = said("m0;", 6, 3, 11, 6);
        check.due("a bit and a lot", z.may(1), bits(7, 8));
        check.due("heMany() of a bit and a lot", z.heMany(), 3);
        // By each alone 8 could be, but LOT 3 or more for one and 2 for the other.
        HigherMoreLeft w = said("m0;", 6, 3, 10, 6);
        check.due("one HE for all", w.may(1), bits(7));
        check.due("heMany() for one", w.heMany(), 2);
        HigherMoreLeft v = said("m0;", 6, 2, 6, 3);
        check.due("left and right", v.may(1), 0);
        check.due("HE stays", v.count(5), 3);
        check.due("five columns on are a lot by each", said("m0;", 0, 7).may(1), bits(2, 3, 4, 5));
        check.due("heMany() of five", said("m0;", 0, 7).heMany(), 4);
    }

    private static void odds(HigherMoreLeft x, int cell, long above, long below) {
        check.due("odds(" + cell + ", 0)", x.odds(cell, 0), above);
        check.due("odds(" + cell + ", 1)", x.odds(cell, 1), below);
    }

    private static void odds() {
        odds(said("m0;"), 0, 1, 24);
        odds(said("m0;"), 23, 1, 24);
        // 72 and 23 times 1.
        HigherMoreLeft there = said("m0;", 20, 8);
        odds(there, 20, 72, 95);
        odds(there, 0, 1, 95);
        // Twice 72 and 22 times 1: 166.
        HigherMoreLeft two = said("h013;", 6, 3);
        odds(two, 7, 36, 83);
        odds(two, 9, 1, 166);
        two.he(0, 1);
        odds(two, 7, 1, 24);
        // 5184 at 8, 72 at 7, 22 times 1: 5278.
        HigherMoreLeft both = said("h013;", 6, 3, 8, 8);
        odds(both, 8, 2592, 2639);
        odds(both, 7, 36, 2639);
        odds(both, 6, 1, 5278);
        HigherMoreLeft full = said("m0;", 23, 8, 23, 8, 23, 8, 23, 8, 23, 8, 23, 8, 23, 8, 23, 8);
        long eight = 722204136308736L;
        odds(full, 23, eight, eight + 23);
        odds(full, 0, 1, eight + 23);
        // 72 to the eighth each for the six of a row, 18 times 1: 18 divides both.
        HigherMoreLeft row = said("h013;", 20, 4, 20, 4, 20, 4, 20, 4, 20, 4, 20, 4, 20, 4, 20, 4);
        odds(row, 5, eight / 18, eight / 3 + 1);
        odds(row, 23, 1, 6 * eight + 18);
    }

    private static void next() {
        HigherMoreLeft x = Check.told("h013;");
        check.due("next(0)", x.next(0), 0);
        check.due("next(1)", x.next(1), 12);
        x.he(2, 2);
        check.due("next(0), LOT 2", x.next(0), 6);
        check.due("next(1), LOT 2", x.next(1), 6);
        // Of 7 and 8 one is left, from the least CELL that tells them apart.
        HigherMoreLeft two = said("h013;", 6, 3);
        check.due("next(0) of two", two.next(0), 7);
        check.due("next(1) of two", two.next(1), 1);
        HigherMoreLeft one = said("h013;", 20, 8);
        check.due("next(0) of one", one.next(0), 0);
        check.due("next(1) of one", one.next(1), 1);
        HigherMoreLeft none = said("h013;", 20, 8, 19, 8);
        check.due("next(0) of none", none.next(0), -9);
        check.due("next(1) of none", none.next(1), -9);
        check.due("next(2) of none", none.next(2), -2);
        // A row of six: from its second CELL 1 left, there, 2 right a bit, 2 a lot.
        HigherMoreLeft row = said("h013;", 20, 4);
        check.due("next(0) of a row", row.next(0), 1);
        check.due("next(1) of a row", row.next(1), 2);
    }

    private static void taught() {
        check.due("taught() of none", said("ih08;").taught(), 2);
        check.due("right is left", said("ih08;", 6, 2).taught(), 13);
        check.due("right a bit, two apart", said("ih08;", 6, 3).taught(), 3);
        check.due("right a lot, two apart", said("ih08;", 6, 7).taught(), 2);
        check.due("four apart a bit", said("ih10;", 6, 3).taught(), 5);
        check.due("four apart a bit, left", said("ih10;", 6, 2).taught(), 15);
        check.due("none true", said("ih10;", 6, 8).taught(), 2);
        check.due("the most", said("ih10;", 6, 6, 6, 6, 6, 7, 7, 2).taught(), 14);
        check.due("three of four", said("ih10;", 6, 3, 6, 7, 6, 7, 11, 3).taught(), 2);
        check.due("HE stays", said("ih10;h135;", 6, 7).taught(), 2);
        HigherMoreLeft gone = said("ih10;s10;", 6, 7);
        check.due("taught() of what is GONE", gone.taught(), -3);
        check.due("that is counted", gone.count(13), 1);
        check.due("SAYINGS stay", gone.count(7), 1);
    }
}
