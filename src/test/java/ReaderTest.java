/** Promises 10, 11 and 13 to 17: WORDS, READERS, FOLLOW, MEAN, HARDEST, SPEAK. */
public final class ReaderTest {
    private static final Check check = new Check();

    public static void main(String[] args) {
        words();
        says();
        reads();
        follow();
        meanAndHardest();
        speak();
        check.end();
    }

    private static void words() {
        HigherMoreLeft x = new HigherMoreLeft();
        int[][] rows = {
            {7, 1, 0}, {7, 13, 1}, {7, 6, 2}, {7, 8, 3}, {7, 7, 8},
            {19, 1, 4}, {1, 19, 5}, {13, 1, 0}, {1, 13, 1},
            {11, 8, 6}, {11, 9, 2}, {6, 9, 7}, {6, 8, 3},
            {0, 11, 1}, {5, 18, 5}, {18, 5, 4}, {6, 5, 0}, {5, 6, 1},
        };
        for (int[] row : rows) {
            check.due("word(" + row[0] + ", " + row[1] + ")", x.word(row[0], row[1]), row[2]);
        }
        x.he(0, 1);
        check.due("LEFT 1: left", x.word(7, 6), 3);
        check.due("LEFT 1: right", x.word(7, 8), 2);
        check.due("LEFT 1: left a lot", x.word(11, 8), 7);
        check.due("LEFT 1: right a lot", x.word(6, 9), 6);
        check.due("LEFT 1: up", x.word(7, 1), 0);
        check.due("LEFT 1: there", x.word(7, 7), 8);
        x.he(2, 2);
        check.due("LOT 2: two rows", x.word(13, 1), 4);
        check.due("LOT 2: one row", x.word(7, 1), 0);
        check.due("LOT 2: two columns", x.word(6, 8), 6);
        x.he(2, 5);
        check.due("LOT 5: three rows", x.word(18, 0), 0);
        check.due("LOT 5: five columns", x.word(0, 5), 6);
        check.due("LOT 5: four columns", x.word(0, 4), 2);
        x.he(1, 3);
        check.due("BIT says nothing", x.word(0, 1), 2);
    }

    private static void says() {
        check.due("say() from HAND 0", Check.told("ii08;").say(), 1);
        check.due("say() from HAND 23", Check.told("ih05;s23;").say(), 4);
        check.due("say() in its row", Check.told("ih05;s02;").say(), 7);
        check.due("say() there", Check.told("ih05;s02;ih02;").say(), 8);
        check.due("say() by LEFT 1", Check.told("ih05;s02;h112;").say(), 6);
        check.due("say() of what is GONE", Check.told("ih05;s05;").say(), 9);
    }

    private static void reads(HigherMoreLeft x, int reader, int... cells) {
        for (int word = 0; word < cells.length; word++) {
            check.due("reads(" + reader + ", " + word + ", 3)", x.reads(reader, word, 3), cells[word]);
        }
    }

    private static void reads() {
        // HAND is 8: row 1, column 2; BIT 1, LOT 2.
        HigherMoreLeft x = Check.told("ih23;h012;s08;");
        reads(x, 0, 2, 14, 7, 9, 2, 20, 6, 10, 8);
        reads(x, 1, 2, 14, 7, 9, 2, 14, 7, 9, 8);
        reads(x, 2, 2, 20, 6, 10, 2, 20, 6, 11, 8);
        reads(x, 3, 2, 14, 9, 7, 2, 20, 10, 6, 8);
        reads(x, 4, 2, 14, 7, 9, 2, 20, 6, 10, 8);
        reads(x, 5, 3, 3, 3, 3, 3, 3, 3, 3, 3);
        // From the last row UP a lot is not cut.
        HigherMoreLeft low = Check.told("ih00;h012;s20;");
        reads(low, 0, 14, 20, 19, 21, 8, 20, 18, 22, 20);
        reads(low, 1, 14, 20, 19, 21, 14, 20, 19, 21, 20);
        reads(low, 2, 8, 20, 18, 22, 2, 20, 18, 23, 20);
        reads(low, 3, 14, 20, 21, 19, 8, 20, 22, 18, 20);
        reads(low, 4, 14, 20, 19, 21, 8, 20, 18, 22, 20);
        x.he(0, 1);
        reads(x, 0, 2, 14, 7, 9, 2, 20, 6, 10, 8);
        reads(x, 3, 2, 14, 9, 7, 2, 20, 10, 6, 8);
        x.he(1, 3);
        x.he(2, 5);
        reads(x, 0, 2, 20, 6, 11, 2, 20, 6, 11, 8);
        reads(x, 1, 2, 14, 7, 9, 2, 14, 7, 9, 8);
        reads(x, 4, 2, 14, 7, 9, 2, 20, 6, 11, 8);
        check.due("BLIND 0", x.reads(5, 0, 0), 0);
        check.due("BLIND 23", x.reads(5, 8, 23), 23);
        check.due("BLIND 24", x.reads(5, 8, 24), 0);
        check.due("BLIND greatest int", x.reads(5, 8, Integer.MAX_VALUE), Integer.MAX_VALUE % 24);
        check.due("STROKER greatest int", x.reads(0, 0, Integer.MAX_VALUE), 2);
        check.due("nothing moved", x.count(1), 8);
        check.due("no TIME went", x.count(0), 1);
    }

    private static void follow(String text, int... strokes) {
        HigherMoreLeft x = Check.told(text);
        for (int reader = 0; reader < strokes.length; reader++) {
            check.due(text + " follow(" + reader + ")", x.follow(reader), strokes[reader]);
        }
        check.due("no TIME went", x.count(0), Check.told(text).count(0));
        check.due("nothing moved", x.itch(1), Check.told(text).itch(1));
    }

    private static void follow() {
        // A hair at 9, HAND 0: down, then right a lot (3 on): DOUBTING the same, SLOW one by one.
        follow("ih09;", 2, 4, -9, -9, 2, 10);
        follow("ih00;", 1, 1, 1, 1, 1, 1);
        // Down 3, right 3, right 2; a BOLD one comes to the edge at once.
        follow("ih23;h023;", 3, 8, 2, -9, 4, 24);
        follow("ih05;s05;", 0, 0, 0, 0, 0, 0);
        follow("in23;", 1, 1, 1, 1, 1, 1);
        // Struck a second time in the BLIND one's second round, by the 40th stroke or too late.
        check.due("the 40th stroke", Check.told("is15;m3;o151;").follow(5), 40);
        check.due("the 41st stroke", Check.told("is16;m4;o161;").follow(5), -9);
        check.due("speak() with the 40th", Check.told("is15;m3;o151;").speak(5, 1), 40);
        check.due("speak() with the 41st", Check.told("is16;m4;o161;").speak(5, 1), 41);
        follow("if05;", -9, -9, -9, -9, -9, -9);
    }

    private static void meanAndHardest() {
        HigherMoreLeft x = Check.told("in00;");
        check.due("mean(0, 0) of NOTHING", x.mean(0, 0), 1);
        check.due("mean(0, 1) of NOTHING", x.mean(0, 1), 1);
        check.due("hardest(0) of NOTHING", x.hardest(0), 0);
        HigherMoreLeft f = Check.told("if07;");
        for (int reader = 0; reader < 6; reader++) {
            check.due("mean of a FLEA", f.mean(reader, 0), 40);
            check.due("mean of a FLEA, below", f.mean(reader, 1), 1);
            check.due("hardest of a FLEA", f.hardest(reader), 0);
        }
        // BLIND on a hair: the CELL and 1: 300 in all, by 24 is 25 by 2.
        HigherMoreLeft h = Check.told("ih07;");
        check.due("BLIND above", h.mean(5, 0), 25);
        check.due("BLIND below", h.mean(5, 1), 2);
        check.due("BLIND hardest", h.hardest(5), 23);
        // SLOW on a hair from HAND 0: FAR strokes, but 1 at CELL 0: 96 and 1.
        check.due("SLOW above", h.mean(1, 0), 97);
        check.due("SLOW below", h.mean(1, 1), 24);
        check.due("SLOW hardest", h.hardest(1), 23);
        // What is GONE has its KIND still.
        h.stroke(7);
        check.due("it is GONE", h.itch(1), 24);
        check.due("mean of its KIND", h.mean(5, 0), 25);
        check.due("hardest of its KIND", h.hardest(5), 23);
        check.due("it stays GONE", h.itch(1), 24);
        check.due("no TIME went", h.count(0), 1);
    }

    private static void speak() {
        // A hair at 23, HAND 0: three rows are a bit of 3, five columns a lot of 5.
        HigherMoreLeft x = Check.told("ih23;");
        check.due("speak(0, 0)", x.speak(0, 0), 35);
        check.due("speak(0, 1)", x.speak(0, 1), 2);
        check.due("speak(5, 0)", x.speak(5, 0), 12);
        check.due("speak(5, 1)", x.speak(5, 1), 24);
        check.due("BIT stays", x.count(4), 1);
        check.due("LOT stays", x.count(5), 3);
        HigherMoreLeft f = Check.told("if23;h135;");
        check.due("none: speak(0, 0)", f.speak(0, 0), 12);
        check.due("none: speak(0, 1)", f.speak(0, 1), 41);
        HigherMoreLeft three = Check.told("ih18;");
        check.due("three rows: speak(0, 0)", three.speak(0, 0), 13);
        check.due("three rows: speak(0, 1)", three.speak(0, 1), 1);
        HigherMoreLeft two = Check.told("ih12;");
        check.due("two rows: speak(0, 0)", two.speak(0, 0), 12);
        check.due("two rows: speak(0, 1)", two.speak(0, 1), 1);
        check.due("two rows: speak(2, 0)", two.speak(2, 0), 13);
        check.due("two rows: speak(2, 1)", two.speak(2, 1), 1);
    }
}
