/** Promises 30 to 33: the ROW, KINDS, JUDGED, EVENINGS. */
public final class RowTest {
    private static final Check check = new Check();

    public static void main(String[] args) {
        row();
        judge();
        kinds();
        evenings();
        check.end();
    }

    private static HigherMoreLeft rowOn(String text, int... cells) {
        HigherMoreLeft x = Check.told(text);
        for (int cell : cells) {
            x.row(cell);
        }
        return x;
    }

    private static void row() {
        HigherMoreLeft x = new HigherMoreLeft();
        check.due("row(24)", x.row(24), 1);
        check.due("row(0)", x.row(0), 2);
        check.due("row(25)", x.row(25), -6);
        check.due("row(-1)", x.row(-1), -4);
        for (int i = 3; i <= 20; i++) {
            check.due("row " + i, x.row(i), i);
        }
        check.due("row 21", x.row(0), -6);
        check.due("row 21 below", x.row(-1), -4);
        check.due("count(8)", x.count(8), 20);
        check.due("judge()", x.judge(), 1);
        check.due("count(8) judged", x.count(8), 0);
        check.due("row again", x.row(3), 1);
    }

    private static void judged(String text, int want, int... cells) {
        HigherMoreLeft x = rowOn(text, cells);
        check.due(text + " judge()", x.judge(), want);
        check.due("the ROW has none", x.count(8), 0);
        check.due("nothing moved", x.itch(1), Check.told(text).itch(1));
        check.due("no TIME went", x.count(0), Check.told(text).count(0));
        check.due("no SORE came", x.count(2), Check.told(text).count(2));
        check.due("judge() again", x.judge(), -9);
    }

    private static void judge() {
        judged("ih08;", -9);
        judged("ih08;", -9, 8, 8, 8);
        judged("ih08;", 0, 7, 8, 8);
        judged("ih08;", 2, 8, 8, 24);
        judged("ih00;", -9, 24, 24);
        judged("ih00;", 1, 24, 0);
        judged("ih08;s08;", -9, 24, 24);
        judged("ih08;s08;", 0, 8);
        judged("ic03;", -9, 9, 9, 9, 15, 15, 15, 21, 21, 21, 21);
        judged("ic03;", 3, 9, 9, 9, 9);
        // HAND is 7: the ITCH at 8 flees once and is beyond it then.
        judged("ih20;s07;ii08;", -9, 9, 9, 9);
        judged("is00;", -9, 0, 0, 24, 24);
        judged("is01;m5;", -9, 2, 3, 4, 5, 5);
    }

    private static void kinds(String text, int want, int... cells) {
        HigherMoreLeft x = rowOn(text, cells);
        check.due(text + " kinds()", x.kinds(), want);
        check.due("the ROW stays", x.count(8), cells.length);
        check.due("KIND stays", x.itch(0), Check.told(text).itch(0));
        check.due("CELL stays", x.itch(1), Check.told(text).itch(1));
    }

    private static void kinds() {
        int i = 1;
        int c = 2;
        int h = 4;
        int f = 8;
        int s = 16;
        int n = 32;
        kinds("ih08;", i | c | h | f | s | n);
        kinds("ih08;", i | h, 8);
        kinds("ih08;", c | f, 14);
        kinds("ih08;", c, 14, 14);
        kinds("ih08;", f, 14, 15);
        kinds("ih08;", s, 7);
        kinds("ih08;", n, 24);
        kinds("ih08;", 0, 23);
        kinds("ih08;m2;", i | h | s, 8);
        kinds("ih00;", i | c | h | n, 24, 24);
        kinds("ih00;", s, 0, 0, 24);
        kinds("ih00;", f, 7);
        kinds("ih08;s08;", 63, 24, 24);
        kinds("ih08;s08;", 0, 24, 8);
        HigherMoreLeft x = rowOn("ih08;", 8);
        check.due("kinds() again", x.kinds() - x.kinds(), 0);
    }

    /** The CELLS drawn, by the document's words in longs. */
    private static int[] drawn(int n, int seed) {
        int[] cells = new int[n];
        long z = seed & 0xffffffffL;
        for (int i = 0; i < n; i++) {
            z = (z * 1664525L + 1013904223L) & 0xffffffffL;
            cells[i] = (int) ((z & 0x7fffffffL) / 256 % 24);
        }
        return cells;
    }

    private static void evenings() {
        int[] seeds = {0, 7, -1, 1, 123456789, Integer.MIN_VALUE, Integer.MAX_VALUE};
        for (int seed : seeds) {
            for (int n : new int[] {1, 2, 20}) {
                // BLIND on a hair takes the CELL and 1; SLOW from HAND 0 takes FAR, at CELL 0 one.
                int blind = 0;
                int slow = 0;
                for (int cell : drawn(n, seed)) {
                    blind += cell + 1;
                    slow += Math.max(1, cell / 6 + cell % 6);
                }
                HigherMoreLeft x = Check.told("ih08;s08;s23;");
                check.due("evenings(5, " + n + ", " + seed + ")", x.evenings(5, n, seed), blind);
                check.due("evenings(1, " + n + ", " + seed + ")", x.evenings(1, n, seed), slow);
                check.due("it stays GONE", x.itch(1), 24);
                check.due("HAND stays", x.count(1), 23);
                check.due("TIME stays", x.count(0), 2);
            }
        }
        check.due("evenings of a FLEA", Check.told("if08;").evenings(0, 20, 5), 800);
        check.due("evenings of NOTHING", Check.told("in08;").evenings(0, 20, 5), 20);
        check.due("a draw by hand", drawn(1, 0)[0], 1013904223 / 256 % 24);
    }
}
