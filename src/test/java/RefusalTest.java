/**
 * The REFUSALS of each promise, in the order in which it tells them: each is
 * counted once and nothing else changes.
 */
public final class RefusalTest {
    private static final Check check = new Check();
    private static final long LONG = 4000000000000000000L;
    private static final int LEAST = Integer.MIN_VALUE;
    private static final int GREATEST = Integer.MAX_VALUE;

    private interface Call {
        long on(HigherMoreLeft x);
    }

    public static void main(String[] args) {
        ofOneCell();
        ofTwoCells();
        ofHeAndWhat();
        ofReaders();
        ofSayings();
        ofTheRest();
        check.end();
    }

    private static HigherMoreLeft object() {
        HigherMoreLeft x = Check.told("is08;h124;m3;s01;o115;");
        x.saying(8, 3);
        x.row(9);
        x.letter('m');
        return x;
    }

    private static String allButRefusals(HigherMoreLeft x) {
        StringBuilder text = new StringBuilder();
        text.append(x.itch(0)).append(' ').append(x.itch(1)).append(' ').append(x.may(0));
        for (int cell = 0; cell < 24; cell++) {
            text.append(' ').append(x.sore(cell));
        }
        for (int what = 0; what <= 9; what++) {
            text.append(' ').append(x.count(what));
        }
        return text.append(' ').append(x.kinds()).toString();
    }

    private static void refused(String name, int number, Call call) {
        HigherMoreLeft x = object();
        String ahead = allButRefusals(x);
        long answer = call.on(x);
        check.due(name, answer > LONG ? LONG - answer : answer, number);
        for (int what = 11; what <= 16; what++) {
            check.due(name + ": count(" + what + ")", x.count(what), what == 10 - number ? 1 : 0);
        }
        check.due(name + " changed something", allButRefusals(x).equals(ahead) ? 1 : 0, 1);
    }

    private static void taken(String name, Call call) {
        HigherMoreLeft x = object();
        call.on(x);
        for (int what = 11; what <= 16; what++) {
            check.due(name + ": count(" + what + ")", x.count(what), 0);
        }
    }

    private static void ofOneCell() {
        for (int cell : new int[] {-1, 24, LEAST, GREATEST}) {
            refused("sore(" + cell + ")", -1, x -> x.sore(cell));
            refused("heal(" + cell + ")", -1, x -> x.heal(cell));
            refused("stroke(" + cell + ")", -1, x -> x.stroke(cell));
            refused("behind(" + cell + ", -1)", -1, x -> x.behind(cell, -1));
            refused("saying(" + cell + ", 9)", -1, x -> x.saying(cell, 9));
            refused("odds(" + cell + ", 2)", -1, x -> x.odds(cell, 2));
            refused("grid(4, 6, " + cell + ", 2)", -1, x -> x.grid(4, 6, cell, 2));
        }
        for (int s : new int[] {-1, 10, LEAST, GREATEST}) {
            refused("strip(" + s + ")", -1, x -> x.strip(s));
        }
    }

    private static void ofTwoCells() {
        for (int cell : new int[] {-1, 24, LEAST, GREATEST}) {
            refused("far(" + cell + ", 0)", -1, x -> x.far(cell, 0));
            refused("far(0, " + cell + ")", -1, x -> x.far(0, cell));
            refused("far twice " + cell, -1, x -> x.far(cell, cell));
            refused("word(" + cell + ", 0)", -1, x -> x.word(cell, 0));
            refused("word(0, " + cell + ")", -1, x -> x.word(0, cell));
            refused("bears(" + cell + ", 0)", -1, x -> x.bears(cell, 0));
            refused("bears(0, " + cell + ")", -1, x -> x.bears(0, cell));
        }
        refused("bears(5, 5)", -1, x -> x.bears(5, 5));
        taken("far(5, 5)", x -> x.far(5, 5));
        taken("word(5, 5)", x -> x.word(5, 5));
    }

    private static void ofHeAndWhat() {
        for (int what : new int[] {-1, 2, LEAST, GREATEST}) {
            refused("itch(" + what + ")", -2, x -> x.itch(what));
            refused("may(" + what + ")", -2, x -> x.may(what));
            refused("next(" + what + ")", -2, x -> x.next(what));
            refused("fewest(" + what + ")", -2, x -> x.fewest(what));
            refused("grid(1, 1, 0, " + what + ")", -2, x -> x.grid(1, 1, 0, what));
            refused("odds(0, " + what + ")", -2, x -> x.odds(0, what));
        }
        for (int what : new int[] {-1, 4, LEAST, GREATEST}) {
            refused("he(" + what + ", -1)", -2, x -> x.he(what, -1));
            refused("he(" + what + ", 9)", -2, x -> x.he(what, 9));
        }
        int[] least = {0, 1, 2, 0};
        int[] most = {1, 3, 5, 5};
        for (int i = 0; i < 4; i++) {
            int what = i;
            refused("he(" + what + ") below", -4, x -> x.he(what, least[what] - 1));
            refused("he(" + what + ") least int", -4, x -> x.he(what, LEAST));
            refused("he(" + what + ") above", -6, x -> x.he(what, most[what] + 1));
            refused("he(" + what + ") greatest int", -6, x -> x.he(what, GREATEST));
        }
    }

    private static void ofReaders() {
        for (int kind : new int[] {-1, 6, LEAST, GREATEST}) {
            refused("reads(" + kind + ", 0, -1)", -2, x -> x.reads(kind, 0, -1));
            refused("follow(" + kind + ")", -2, x -> x.follow(kind));
            refused("mean(" + kind + ", 0)", -2, x -> x.mean(kind, 0));
            refused("mean(" + kind + ", 2)", -2, x -> x.mean(kind, 2));
            refused("hardest(" + kind + ")", -2, x -> x.hardest(kind));
            refused("speak(" + kind + ", 0)", -2, x -> x.speak(kind, 0));
            refused("speak(" + kind + ", 2)", -2, x -> x.speak(kind, 2));
            refused("evenings(" + kind + ", 0, 1)", -2, x -> x.evenings(kind, 0, 1));
            refused("evenings(" + kind + ", 21, 1)", -2, x -> x.evenings(kind, 21, 1));
        }
        for (int part : new int[] {-1, 2, LEAST, GREATEST}) {
            refused("mean(0, " + part + ")", -2, x -> x.mean(0, part));
            refused("speak(0, " + part + ")", -2, x -> x.speak(0, part));
        }
        for (int word : new int[] {-1, 9, LEAST, GREATEST}) {
            refused("reads(0, " + word + ", -1)", -2, x -> x.reads(0, word, -1));
            refused("reads(5, " + word + ", 0)", -2, x -> x.reads(5, word, 0));
        }
        refused("reads(0, 0, -1)", -4, x -> x.reads(0, 0, -1));
        refused("reads(5, 8, least int)", -4, x -> x.reads(5, 8, LEAST));
        refused("evenings(5, 0, 1)", -4, x -> x.evenings(5, 0, 1));
        refused("evenings(5, least int, 1)", -4, x -> x.evenings(5, LEAST, 1));
        refused("evenings(5, 21, 1)", -6, x -> x.evenings(5, 21, 1));
        refused("evenings(5, greatest int, 1)", -6, x -> x.evenings(5, GREATEST, 1));
        taken("follow(5)", x -> x.follow(5));
        taken("mean(5, 1)", x -> x.mean(5, 1));
        taken("evenings(5, 20, least int)", x -> x.evenings(5, 20, LEAST));
    }

    private static void ofSayings() {
        for (int word : new int[] {-1, 9, LEAST, GREATEST}) {
            refused("saying(0, " + word + ")", -2, x -> x.saying(0, word));
        }
        HigherMoreLeft x = object();
        for (int i = 0; i < 7; i++) {
            x.saying(0, 0);
        }
        check.due("no room: -1 first", x.saying(24, 9), -1);
        check.due("no room: -2 first", x.saying(0, 9), -2);
        check.due("no room", x.saying(0, 0), -6);
        check.due("count(7)", x.count(7), 8);
        check.due("count(16)", x.count(16), 1);
    }

    private static void ofTheRest() {
        refused("letter(-1)", -4, x -> x.letter(-1));
        refused("letter(256)", -6, x -> x.letter(256));
        refused("behind(0, -1)", -4, x -> x.behind(0, -1));
        refused("behind(0, least int)", -4, x -> x.behind(0, LEAST));
        refused("behind(0, 21)", -6, x -> x.behind(0, 21));
        refused("row(-1)", -4, x -> x.row(-1));
        refused("row(25)", -6, x -> x.row(25));
        refused("on()", -3, x -> x.on());
        refused("grid(0, 7, 24, 2)", -4, x -> x.grid(0, 7, 24, 2));
        refused("grid(5, 0, 24, 2)", -4, x -> x.grid(5, 0, 24, 2));
        refused("grid(5, 6, 24, 2)", -6, x -> x.grid(5, 6, 24, 2));
        refused("grid(4, 7, 24, 2)", -6, x -> x.grid(4, 7, 24, 2));
        refused("grid(greatest, greatest, 0, 0)", -6, x -> x.grid(GREATEST, GREATEST, 0, 0));
        taken("count(10)", x -> x.count(10));
        taken("behind(23, 20)", x -> x.behind(23, 20));
        taken("back() with a FAULT", x -> x.back());
        taken("next(0)", x -> x.next(0));
        taken("bestStrip()", x -> x.bestStrip());
        taken("judge()", x -> x.judge());
        taken("image()", x -> x.image());
    }
}
