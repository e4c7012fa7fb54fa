/** Promises 4 to 9 and 12: the ITCH, SORE, HE, strokes on each KIND, FAR, BEHIND. */
public final class StrokeTest {
    private static final Check check = new Check();

    public static void main(String[] args) {
        soreAndHeal();
        he();
        strokeCounts();
        itch();
        creeping();
        hair();
        flea();
        seams();
        nothing();
        far();
        behind();
        check.end();
    }

    /** Strokes on a told BACK, each with where the ITCH is due then. */
    private static HigherMoreLeft strokes(String text, int... cellsAndPlaces) {
        HigherMoreLeft x = Check.told(text);
        for (int i = 0; i + 1 < cellsAndPlaces.length; i += 2) {
            String call = text + " stroke " + i / 2 + " on " + cellsAndPlaces[i];
            check.due(call, x.stroke(cellsAndPlaces[i]), cellsAndPlaces[i + 1]);
            check.due(call + ": itch(1)", x.itch(1), cellsAndPlaces[i + 1]);
        }
        return x;
    }

    private static void soreAndHeal() {
        HigherMoreLeft x = Check.told("o234;o001;");
        check.due("sore(23)", x.sore(23), 4);
        check.due("heal(23)", x.heal(23), 4);
        check.due("heal(23) again", x.heal(23), 0);
        check.due("sore(23) healed", x.sore(23), 0);
        check.due("sore(0)", x.sore(0), 1);
        check.due("all SORE", x.count(2), 1);
        check.due("heal(0)", x.heal(0), 1);
        check.due("all SORE healed", x.count(2), 0);
        check.due("no stroke was made", x.count(0), 0);
    }

    private static void he() {
        HigherMoreLeft x = new HigherMoreLeft();
        int[] first = {0, 1, 3, 0};
        int[] least = {0, 1, 2, 0};
        int[] most = {1, 3, 5, 5};
        for (int what = 0; what < 4; what++) {
            check.due("he(" + what + ", most)", x.he(what, most[what]), first[what]);
            check.due("count of it", x.count(3 + what), most[what]);
            check.due("he(" + what + ", least)", x.he(what, least[what]), most[what]);
            check.due("count of it", x.count(3 + what), least[what]);
            check.due("he below", x.he(what, least[what] - 1), -4);
            check.due("he above", x.he(what, most[what] + 1), -6);
            check.due("count stays", x.count(3 + what), least[what]);
        }
        check.due("he(4, 0)", x.he(4, 0), -2);
        check.due("he(-1, -1)", x.he(-1, -1), -2);
        check.due("he(4, 99)", x.he(4, 99), -2);
    }

    private static void strokeCounts() {
        HigherMoreLeft x = Check.told("ih23;");
        for (int i = 1; i <= 11; i++) {
            check.due("stroke(4)", x.stroke(4), 23);
            check.due("sore(4)", x.sore(4), Math.min(9, i));
            check.due("TIME", x.count(0), i);
            check.due("HAND", x.count(1), 4);
        }
        check.due("stroke(23)", x.stroke(23), 24);
        check.due("stroke on nothing", x.stroke(22), 24);
        check.due("HAND goes on", x.count(1), 22);
        check.due("TIME goes on", x.count(0), 13);
        check.due("SORE goes on", x.count(2), 11);
    }

    private static void itch() {
        strokes("ii00;", 0, 24, 0, 24);
        strokes("ii08;", 7, 9, 8, 10, 9, 11, 10, 11, 11, 24);
        strokes("ii08;", 9, 7, 8, 6, 7, 6, 6, 24);
        strokes("ii08;", 6, 8, 10, 8, 2, 8, 14, 8, 0, 8, 23, 8);
        strokes("ii06;", 5, 6);
        strokes("ii05;", 6, 5);
        strokes("ii23;", 22, 23, 17, 23);
        strokes("ii18;", 19, 18, 17, 18);
    }

    private static void creeping() {
        strokes("ic03;", 0, 9, 0, 9, 0, 9, 0, 15, 0, 15, 0, 15, 0, 21, 0, 21, 0, 21, 0, 21);
        strokes("ic03;", 2, 9, 8, 10, 9, 11, 10, 17);
        strokes("ic20;", 19, 21, 20, 22, 21, 23, 22, 23, 23, 24);
        strokes("ic20;", 20, 24);
        strokes("ic02;", 3, 8);
    }

    private static void hair() {
        strokes("ih08;", 7, 8, 9, 8, 2, 8, 14, 8, 8, 24, 8, 24);
    }

    private static void flea() {
        strokes("if00;", 0, 7);
        strokes("if23;", 23, 6);
        strokes("if16;", 16, 23);
        strokes("if17;", 17, 0, 0, 7);
        strokes("if03;", 0, 9);
        // At TIME 1 it neither creeps nor is it FAR 1: it goes across its row.
        strokes("if03;s23;", 0, 8, 0, 9, 0, 15);
        strokes("if03;s23;o088;", 0, 9, 8, 10, 8, 16);
        strokes("if08;s08;", 14, 16, 15, 17, 1, 23);
        // In the last row a TIME that 3 divides is as another.
        strokes("if18;", 0, 23, 22, 18, 17, 23);
        strokes("if18;o231;", 0, 18);
        // The stroke's own SORE counts where it would go across.
        strokes("if19;", 22, 19);
        strokes("if20;", 21, 19);
        strokes("if21;", 20, 22);
        // It can not go farther at the edge, so it goes across, if that is not stroked.
        strokes("if23;", 22, 18);
    }

    private static void seams() {
        strokes("is08;", 8, 8, 8, 8, 8, 24);
        strokes("is08;o082;", 8, 24);
        strokes("is08;o081;", 8, 8, 8, 24);
        strokes("is08;m0;", 0, 7, 0, 6, 0, 6);
        strokes("is08;m5;", 7, 9, 8, 10, 9, 11, 10, 11);
        strokes("is08;m2;", 7, 8, 9, 8);
        strokes("is20;m3;", 0, 21, 0, 21);
        HigherMoreLeft x = strokes("is08;", 8, 8, 8, 8);
        x.heal(8);
        check.due("healed, it stays", x.stroke(8), 8);
    }

    private static void nothing() {
        strokes("in08;", 8, 24);
        strokes("in08;", 9, 24, 8, 24);
        strokes("in08;", 23, 24);
    }

    private static void far() {
        HigherMoreLeft x = new HigherMoreLeft();
        check.due("far(0, 23)", x.far(0, 23), 8);
        check.due("far(23, 0)", x.far(23, 0), 8);
        check.due("far(5, 6)", x.far(5, 6), 6);
        check.due("far(5, 18)", x.far(5, 18), 8);
        check.due("far(7, 7)", x.far(7, 7), 0);
        check.due("far(7, 8)", x.far(7, 8), 1);
        check.due("far(8, 2)", x.far(8, 2), 1);
    }

    private static void behind() {
        HigherMoreLeft x = Check.told("ic03;");
        check.due("behind(14, 0)", x.behind(14, 0), 3);
        check.due("behind(14, 20)", x.behind(14, 20), 22);
        check.due("behind(3, 1)", x.behind(3, 1), 24);
        check.due("behind(3, 20)", x.behind(3, 20), 24);
        check.due("nothing moved", x.itch(1), 3);
        check.due("no TIME went", x.count(0), 0);
        check.due("no SORE came", x.count(2), 0);
        check.due("no HAND moved", x.count(1), 0);
        HigherMoreLeft s = Check.told("is08;m5;");
        check.due("behind(8, 2)", s.behind(8, 2), 8);
        check.due("behind(8, 3)", s.behind(8, 3), 24);
        check.due("behind(9, 1)", s.behind(9, 1), 9);
        check.due("behind(9, 4)", s.behind(9, 4), 24);
        check.due("behind(10, 1)", s.behind(10, 1), 9);
    }
}
