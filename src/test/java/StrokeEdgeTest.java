/** The edges of promises 4 to 9 and 12: first values, SORE, HE, TIME, KINDS at rows' and columns' ends, BEHIND. */
public final class StrokeEdgeTest {
    private static final Check check = new Check();
    private static final String KINDS = "ichfsn";

    public static void main(String[] args) {
        firstValues();
        kindsAndCells();
        soreOfEachCell();
        soreAtMostNine();
        healAtEachSore();
        heFromLeastToMost();
        strokeOnTheFirstAndLastCell();
        lastStroke();
        itchAtTheEndsOfRows();
        itchIsNotBesideFartherCells();
        creepingByTime();
        creepingInTheLastRow();
        hairStays();
        fleaStruckOnEachCell();
        fleaCreepsFirst();
        fleaAcrossIfNotSore();
        seamsStruckByTheirSore();
        seamsBesideTheirSeam();
        nothingIsGoneEither();
        goneStaysGone();
        farFromNoneToMost();
        behindNoneToTwenty();
        check.end();
    }

    private static void strokes(String text, int... cellsAndPlaces) {
        HigherMoreLeft x = Check.told(text);
        for (int i = 0; i + 1 < cellsAndPlaces.length; i += 2) {
            String call = text + " stroke " + i / 2 + " on " + cellsAndPlaces[i];
            check.due(call, x.stroke(cellsAndPlaces[i]), cellsAndPlaces[i + 1]);
            check.due(call + ": itch(1)", x.itch(1), cellsAndPlaces[i + 1]);
        }
    }

    /** "i, at 0, at first", "0 at first", "1 at first", "3 at first" */
    private static void firstValues() {
        HigherMoreLeft x = new HigherMoreLeft();
        int[] first = {0, 0, 0, 0, 1, 3, 0, 0, 0, 0};
        for (int what = 0; what <= 9; what++) {
            check.due("first count(" + what + ")", x.count(what), first[what]);
        }
        check.due("first KIND", x.itch(0), 0);
        check.due("first CELL", x.itch(1), 0);
        check.due("struck there, it is GONE", x.stroke(0), 24);
        check.due("KIND of what is GONE", x.itch(0), 0);
        HigherMoreLeft other = new HigherMoreLeft();
        check.due("an object of its own", other.itch(1), 0);
        check.due("its TIME", other.count(0), 0);
    }

    private static void kindsAndCells() {
        for (int kind = 0; kind < 6; kind++) {
            for (int cell = 0; cell < 24; cell++) {
                HigherMoreLeft x = Check.told("i" + KINDS.charAt(kind) + Check.two(cell) + ";");
                check.due("KIND", x.itch(0), kind);
                check.due("CELL", x.itch(1), cell);
                check.due("itch(-1)", x.itch(-1), -2);
                check.due("itch(2)", x.itch(2), -2);
            }
        }
    }

    private static void soreOfEachCell() {
        for (int cell = 0; cell < 24; cell++) {
            HigherMoreLeft x = Check.told("ih00;o" + Check.two(cell) + "4;");
            for (int other = 0; other < 24; other++) {
                check.due("sore(" + other + ")", x.sore(other), other == cell ? 4 : 0);
            }
            x.stroke(cell);
            check.due("sore(" + cell + ") struck", x.sore(cell), 5);
            check.due("all SORE", x.count(2), 5);
        }
    }

    /** "SORE of each CELL (0 .. 9", "SORE of it is 1 more (9 at most)" */
    private static void soreAtMostNine() {
        int[][] rows = {{0, 1}, {1, 2}, {7, 8}, {8, 9}, {9, 9}};
        for (int[] row : rows) {
            HigherMoreLeft x = Check.told("ih00;o23" + row[0] + ";");
            check.due("told SORE", x.sore(23), row[0]);
            x.stroke(23);
            check.due("SORE by a stroke", x.sore(23), row[1]);
            HigherMoreLeft y = Check.told("ih00;o23" + row[0] + ";s23;");
            check.due("SORE by a told stroke", y.sore(23), row[1]);
        }
        HigherMoreLeft all = Check.told("ih00;");
        for (int i = 0; i < 240; i++) {
            all.stroke(i % 24);
        }
        check.due("all SORE at most", all.count(2), 216);
        check.due("TIME", all.count(0), 240);
    }

    private static void healAtEachSore() {
        for (int sore = 0; sore <= 9; sore++) {
            HigherMoreLeft x = Check.told("o00" + sore + ";o23" + sore + ";");
            check.due("heal(0)", x.heal(0), sore);
            check.due("sore(0)", x.sore(0), 0);
            check.due("sore(23)", x.sore(23), sore);
            check.due("heal(23)", x.heal(23), sore);
            check.due("heal(23) again", x.heal(23), 0);
            check.due("all SORE", x.count(2), 0);
        }
        check.due("heal(-1)", new HigherMoreLeft().heal(-1), -1);
        check.due("heal(24)", new HigherMoreLeft().heal(24), -1);
    }

    /** "-4 (0; 1; 2; 0); -6 (1; 3; 5; 5)" */
    private static void heFromLeastToMost() {
        int[] least = {0, 1, 2, 0};
        int[] most = {1, 3, 5, 5};
        for (int what = 0; what < 4; what++) {
            HigherMoreLeft x = new HigherMoreLeft();
            int was = x.count(3 + what);
            for (int v = least[what]; v <= most[what]; v++) {
                check.due("he(" + what + ", " + v + ")", x.he(what, v), was);
                for (int other = 0; other < 4; other++) {
                    int first = other == 1 ? 1 : other == 2 ? 3 : 0;
                    check.due("count of " + other, x.count(3 + other), other == what ? v : first);
                }
                was = v;
            }
            check.due("he(" + what + ") above", x.he(what, most[what] + 1), -6);
            check.due("he(" + what + ") below", x.he(what, least[what] - 1), -4);
            check.due("it stays", x.count(3 + what), most[what]);
        }
        for (int what : new int[] {-1, 4}) {
            for (int v : new int[] {-1, 0, 6}) {
                check.due("he(" + what + ", " + v + ")", new HigherMoreLeft().he(what, v), -2);
            }
        }
    }

    private static void strokeOnTheFirstAndLastCell() {
        HigherMoreLeft x = Check.told("ih12;");
        check.due("stroke(0)", x.stroke(0), 12);
        check.due("HAND", x.count(1), 0);
        check.due("stroke(23)", x.stroke(23), 12);
        check.due("HAND", x.count(1), 23);
        check.due("stroke(-1)", x.stroke(-1), -1);
        check.due("stroke(24)", x.stroke(24), -1);
        check.due("HAND stays", x.count(1), 23);
        check.due("TIME stays", x.count(0), 2);
        check.due("SORE stays", x.count(2), 2);
    }

    /** "TIME: how many strokes (0 .. 999)", "-1; -6 TIME is 999": looked at beyond 512 calls all the same. */
    private static void lastStroke() {
        HigherMoreLeft x = Check.told("in23;");
        for (int i = 0; i < 49; i++) {
            Check.tell(x, "s05;".repeat(20));
        }
        Check.tell(x, "s05;".repeat(18));
        check.due("TIME", x.count(0), 998);
        Check.tell(x, "ih23;");
        check.due("stroke at 998", x.stroke(22), 23);
        check.due("TIME", x.count(0), 999);
        int[][] rows = {{23, -6}, {0, -6}, {24, -1}, {-1, -1}};
        for (int[] row : rows) {
            check.due("stroke(" + row[0] + ") at 999", x.stroke(row[0]), row[1]);
        }
        check.due("count(16)", x.count(16), 2);
        check.due("count(11)", x.count(11), 2);
        check.due("CELL stays", x.itch(1), 23);
        check.due("HAND stays", x.count(1), 22);
        check.due("SORE stays", x.sore(23), 0);
        check.due("TIME stays", x.count(0), 999);
        check.due("image()", x.image(), 999);
        check.due("on()", x.on(), 999);
    }

    /** "it goes one column on, away from HAND, if there is one" */
    private static void itchAtTheEndsOfRows() {
        for (int row = 0; row < 4; row++) {
            for (int column = 0; column < 6; column++) {
                int cell = 6 * row + column;
                if (column > 0) {
                    strokes("ii" + Check.two(cell) + ";", cell - 1, column == 5 ? cell : cell + 1);
                }
                if (column < 5) {
                    strokes("ii" + Check.two(cell) + ";", cell + 1, column == 0 ? cell : cell - 1);
                }
                strokes("ii" + Check.two(cell) + ";", cell, 24);
            }
        }
    }

    /** "if it is in the same row, FAR 1": all other CELLS leave it where it is, the next row's first one, too. */
    private static void itchIsNotBesideFartherCells() {
        for (int itch : new int[] {0, 5, 6, 8, 11, 12, 17, 18, 20, 23}) {
            for (int cell = 0; cell < 24; cell++) {
                boolean beside = cell / 6 == itch / 6 && Math.abs(cell - itch) == 1;
                if (!beside && cell != itch) {
                    strokes("ii" + Check.two(itch) + ";", cell, itch);
                }
            }
        }
    }

    /** "in each TIME that 3 divides (0, 3, ..) one row down instead, if there is one" */
    private static void creepingByTime() {
        for (int time = 0; time <= 9; time++) {
            boolean down = time == 0 || time == 3 || time == 6 || time == 9;
            String ahead = "ih00;" + "s23;".repeat(time);
            strokes(ahead + "ic03;", 18, down ? 9 : 3);
            strokes(ahead + "ic17;", 0, down ? 23 : 17);
            strokes(ahead + "ic08;", 7, down ? 14 : 9);
            strokes(ahead + "ic08;", 8, 24);
        }
    }

    /** "else as an ITCH" */
    private static void creepingInTheLastRow() {
        strokes("ic18;", 0, 18);
        strokes("ic18;", 19, 18);
        strokes("ic19;", 20, 18);
        strokes("ic22;", 21, 23);
        strokes("ic23;", 22, 23);
        strokes("ic23;", 23, 24);
        strokes("ic12;", 0, 18, 0, 18, 0, 18, 0, 18);
        strokes("ic00;", 23, 6, 23, 6, 23, 6, 23, 12, 23, 12, 23, 12, 23, 18, 23, 18, 22, 18, 19, 18);
    }

    private static void hairStays() {
        for (int itch : new int[] {0, 5, 12, 23}) {
            for (int cell = 0; cell < 24; cell++) {
                strokes("ih" + Check.two(itch) + ";", cell, cell == itch ? 24 : itch);
            }
        }
    }

    /** "it goes 7 CELLS on (round, 23 to 0)" */
    private static void fleaStruckOnEachCell() {
        int[] on = {7, 8, 9, 10, 11, 12, 13, 14, 15, 16, 17, 18, 19, 20, 21, 22, 23, 0, 1, 2, 3, 4, 5, 6};
        for (int cell = 0; cell < 24; cell++) {
            strokes("if" + Check.two(cell) + ";", cell, on[cell]);
            strokes("ih00;s23;if" + Check.two(cell) + ";", cell, on[cell]);
            strokes("o" + Check.two(cell) + "9;if" + Check.two(cell) + ";", cell, on[cell]);
        }
    }

    /** "as a CREEPING one, if that moves it" */
    private static void fleaCreepsFirst() {
        strokes("if03;", 18, 9);
        strokes("if17;", 0, 23);
        strokes("ih00;s23;if08;", 7, 9);
        strokes("ih00;s23;if08;", 9, 7);
        strokes("ih00;s23;s23;if20;", 19, 21);
        strokes("if20;", 19, 21);
        strokes("if19;", 20, 18);
    }

    /** "else to the CELL of its row with column 5 less its own, if SORE there is 0" */
    private static void fleaAcrossIfNotSore() {
        int[] across = {5, 4, 3, 2, 1, 0};
        for (int row = 0; row < 4; row++) {
            for (int column = 0; column < 6; column++) {
                int from = 6 * row + column;
                int to = 6 * row + across[column];
                int far = row == 0 ? 13 : 1;
                String at = "ih14;s" + Check.two(far) + ";if" + Check.two(from) + ";";
                strokes(at, far, to);
                strokes(at + "o" + Check.two(to) + "1;", far, from);
                strokes(at + "o" + Check.two(to) + "9;", far, from);
                strokes(at + "o" + Check.two(to) + "0;", far, to);
                strokes(at + "o" + Check.two(from) + "9;", far, to);
            }
        }
        // The stroke itself makes it SORE there: of columns 0 and 5 no other rule moves it.
        strokes("ih14;s01;if06;", 11, 6, 1, 6);
        strokes("ih14;s01;if23;", 18, 23);
        // At the end of a row it is beside, but can not go on.
        strokes("ih14;s01;if06;", 7, 11);
        strokes("ih14;s01;if23;", 22, 18);
        HigherMoreLeft x = Check.told("ih14;s01;s01;if06;o111;");
        check.due("SORE across", x.stroke(1), 6);
        x.heal(11);
        Check.tell(x, "s01;if06;");
        check.due("healed across", x.stroke(1), 11);
    }

    /** "GONE, if SORE of its CELL (with this stroke) is 3 or more, else stays" */
    private static void seamsStruckByTheirSore() {
        for (int sore = 0; sore <= 9; sore++) {
            strokes("is08;o08" + sore + ";", 8, sore >= 2 ? 24 : 8);
            strokes("is23;m0;o23" + sore + ";", 23, sore >= 2 ? 24 : 23);
        }
        strokes("is00;", 0, 0, 0, 0, 0, 24);
        // SORE elsewhere does nothing.
        strokes("o079;o099;o009;is08;", 8, 8);
    }

    /** "one column toward the SEAM" (0 .. 5) */
    private static void seamsBesideTheirSeam() {
        for (int seam = 0; seam <= 5; seam++) {
            for (int column = 0; column <= 5; column++) {
                int step = column < seam ? 1 : column == seam ? 0 : -1;
                strokes("m" + seam + ";is0" + column + ";", 6, column + step);
                strokes("m" + seam + ";is" + (18 + column) + ";", 0, 18 + column + step);
            }
        }
        strokes("m5;is18;", 0, 19, 0, 20, 0, 21, 0, 22, 0, 23, 0, 23);
        strokes("m0;is05;", 23, 4, 23, 3, 23, 2, 23, 1, 23, 0, 23, 0);
    }

    private static void nothingIsGoneEither() {
        for (int itch : new int[] {0, 5, 18, 23}) {
            for (int cell = 0; cell < 24; cell++) {
                strokes("in" + Check.two(itch) + ";", cell, 24);
            }
        }
    }

    /** "the ITCH, unless it is GONE, does by its KIND" */
    private static void goneStaysGone() {
        String[] texts = {"ii00;s00;", "ic00;s00;", "ih00;s00;", "is00;s00;s00;s00;", "in00;s23;"};
        int[] kinds = {0, 1, 2, 4, 5};
        for (int i = 0; i < texts.length; i++) {
            HigherMoreLeft x = Check.told(texts[i]);
            int time = x.count(0);
            int sore = x.count(2);
            for (int cell = 0; cell < 24; cell++) {
                check.due(texts[i] + " stroke(" + cell + ")", x.stroke(cell), 24);
                check.due("HAND", x.count(1), cell);
                check.due("TIME", x.count(0), time + cell + 1);
                check.due("all SORE", x.count(2), sore + cell + 1);
            }
            check.due("KIND", x.itch(0), kinds[i]);
            check.due("behind(0, 20)", x.behind(0, 20), 24);
            check.due("say()", x.say(), 9);
            Check.tell(x, "ih05;");
            check.due("told again", x.itch(1), 5);
        }
    }

    private static void farFromNoneToMost() {
        HigherMoreLeft x = new HigherMoreLeft();
        int[][] rows = {
            {0, 0, 0}, {23, 23, 0}, {0, 1, 1}, {0, 6, 1}, {5, 6, 6}, {17, 18, 6}, {0, 5, 5}, {0, 18, 3},
            {0, 23, 8}, {5, 18, 8}, {11, 12, 6}, {22, 23, 1}, {17, 23, 1}, {7, 14, 2}, {8, 13, 2}};
        for (int[] row : rows) {
            check.due("far(" + row[0] + ", " + row[1] + ")", x.far(row[0], row[1]), row[2]);
            check.due("far(" + row[1] + ", " + row[0] + ")", x.far(row[1], row[0]), row[2]);
        }
        int[][] refused = {{-1, 0}, {0, -1}, {24, 0}, {0, 24}, {-1, 24}, {24, 24}};
        for (int[] row : refused) {
            check.due("far(" + row[0] + ", " + row[1] + ")", x.far(row[0], row[1]), -1);
        }
    }

    /** "BEHIND n strokes (0 .. 20) on one CELL each" */
    private static void behindNoneToTwenty() {
        // In the last row a FLEA goes across and back with each stroke elsewhere.
        HigherMoreLeft flea = Check.told("if18;");
        for (int n = 0; n <= 20; n++) {
            check.due("FLEA behind(0, " + n + ")", flea.behind(0, n), n % 2 == 0 ? 18 : 23);
        }
        // On its own CELL it goes on by 7 to 7, then creeps at TIME 3 (13), 6 (19), and is in the last row.
        int[] places = {0, 7, 10, 7, 13, 16, 13, 19, 22, 19, 22};
        HigherMoreLeft struck = Check.told("if00;");
        for (int n = 0; n < places.length; n++) {
            check.due("FLEA behind(0, " + n + ") at 0", struck.behind(0, n), places[n]);
        }
        check.due("FLEA behind(0, 19) at 0", struck.behind(0, 19), 19);
        check.due("FLEA behind(0, 20) at 0", struck.behind(0, 20), 22);
        HigherMoreLeft seams = Check.told("is23;m5;");
        int[] due = {23, 23, 23, 24, 24};
        for (int n = 0; n < due.length; n++) {
            check.due("SEAM'S behind(23, " + n + ")", seams.behind(23, n), due[n]);
        }
        check.due("behind(23, 20)", seams.behind(23, 20), 24);
        check.due("behind(0, 20)", seams.behind(0, 20), 23);
        int[][] refused = {{-1, 0, -1}, {24, 0, -1}, {24, -1, -1}, {24, 21, -1}, {0, -1, -4}, {23, 21, -6}};
        for (int[] row : refused) {
            check.due("behind(" + row[0] + ", " + row[1] + ")", seams.behind(row[0], row[1]), row[2]);
        }
        check.due("nothing moved", seams.itch(1), 23);
        check.due("no TIME went", seams.count(0), 0);
    }
}
