/**
 * The REFUSALS of each promise, in the order in which it tells them: each is
 * counted once and nothing else changes.
 */
public final class RefusalTest {
    private static final Check check = new Check();
    private static final long LONG = 4000000000000000000L;
    private static final int LEAST = Integer.MIN_VALUE;
    private static final int GREATEST = Integer.MAX_VALUE;
    private static final int STATES = 4;
    private static final int FULL = 2;
    private static final int GONE = 3;

    private interface Call {
        long on(HigherMoreLeft x);
    }

    public static void main(String[] args) {
        ofOneCell();
        ofTwoCells();
        ofHeAndWhat();
        ofReaders();
        ofSayings();
        ofTheRest();
        ofStates();
        ofNone();
        ofCallsThatRefuseNothing();
        check.end();
    }

    /** An object as it is at first, with some of all, full of all, and with an ITCH that is GONE. */
    private static HigherMoreLeft object(int state) {
        String[] texts = {"h013;", "is08;h124;m3;s01;o115;", "ic20;h135;m5;s09;o009;", "ih05;h112;m4;s05;o230;"};
        HigherMoreLeft x = state == 0 ? new HigherMoreLeft() : Check.told(texts[state]);
        boolean isFull = state == FULL;
        if (isFull || state == 1) {
            x.image();
            x.stroke(10);
        }
        for (int i = 0; i < (isFull ? 8 : state); i++) {
            x.saying(i, x.word(i, 21));
        }
        for (int i = 0; i < (isFull ? 20 : state); i++) {
            x.row(x.behind(x.count(1), i + 1));
        }
        for (int i = 0; i < (isFull ? 80 : state); i++) {
            x.letter("s14;".charAt(i % 4));
        }
        return x;
    }

    /** In each state the call answers the number, is counted once, and changes nothing else. */
    private static void refused(String name, int number, Call call) {
        for (int state = 0; state < STATES; state++) {
            refusedIn(state, name, number, call);
        }
    }

    private static void refusedIn(int state, String name, int number, Call call) {
        HigherMoreLeft x = object(state);
        long answer = call.on(x);
        boolean isLong = name.startsWith("mean") || name.startsWith("odds");
        check.due(name + " in state " + state, answer, isLong ? LONG - number : number);
        for (int what = 11; what <= 16; what++) {
            check.due(name + ": count(" + what + ")", x.count(what), what == 10 - number ? 1 : 0);
        }
        String same = Probe.toTheEnd(object(state));
        check.due(name + " changed something in state " + state, Probe.toTheEnd(x).equals(same) ? 0 : 1, 0);
    }

    private static void taken(String name, Call call) {
        for (int state = 0; state < STATES; state++) {
            takenIn(state, name, call);
        }
    }

    private static void takenIn(int state, String name, Call call) {
        HigherMoreLeft x = object(state);
        call.on(x);
        for (int what = 11; what <= 16; what++) {
            check.due(name + " in state " + state + ": count(" + what + ")", x.count(what), 0);
        }
    }

    private static void ofOneCell() {
        for (int cell : new int[] {-1, 24, LEAST, GREATEST}) {
            refused("sore(" + cell + ")", -1, x -> x.sore(cell));
            refused("heal(" + cell + ")", -1, x -> x.heal(cell));
            refused("stroke(" + cell + ")", -1, x -> x.stroke(cell));
            refused("behind(" + cell + ", -1)", -1, x -> x.behind(cell, -1));
            refused("saying(" + cell + ", 9)", -1, x -> x.saying(cell, 9));
            refused("odds(" + cell + ", 2)", -1, x -> x.odds(cell, 2));
            refused("grid(4, 6, " + cell + ", 2)", -1, x -> x.grid(4, 6, cell, 2));
        }
        for (int s : new int[] {-1, 10, LEAST, GREATEST}) {
            refused("strip(" + s + ")", -1, x -> x.strip(s));
        }
    }

    private static void ofTwoCells() {
        for (int cell : new int[] {-1, 24, LEAST, GREATEST}) {
            refused("far(" + cell + ", 0)", -1, x -> x.far(cell, 0));
            refused("far(0, " + cell + ")", -1, x -> x.far(0, cell));
            refused("far twice " + cell, -1, x -> x.far(cell, cell));
            refused("word(" + cell + ", 0)", -1, x -> x.word(cell, 0));
            refused("word(0, " + cell + ")", -1, x -> x.word(0, cell));
            refused("bears(" + cell + ", 0)", -1, x -> x.bears(cell, 0));
            refused("bears(0, " + cell + ")", -1, x -> x.bears(0, cell));
        }
        refused("bears(5, 5)", -1, x -> x.bears(5, 5));
    }

    private static void ofHeAndWhat() {
        for (int what : new int[] {-1, 2, LEAST, GREATEST}) {
            refused("itch(" + what + ")", -2, x -> x.itch(what));
            refused("may(" + what + ")", -2, x -> x.may(what));
            refused("next(" + what + ")", -2, x -> x.next(what));
            refused("fewest(" + what + ")", -2, x -> x.fewest(what));
            refused("grid(1, 1, 0, " + what + ")", -2, x -> x.grid(1, 1, 0, what));
            refused("odds(0, " + what + ")", -2, x -> x.odds(0, what));
        }
        for (int what : new int[] {-1, 4, LEAST, GREATEST}) {
            refused("he(" + what + ", -1)", -2, x -> x.he(what, -1));
            refused("he(" + what + ", 9)", -2, x -> x.he(what, 9));
        }
        int[] least = {0, 1, 2, 0};
        int[] most = {1, 3, 5, 5};
        for (int i = 0; i < 4; i++) {
            int what = i;
            refused("he(" + what + ") below", -4, x -> x.he(what, least[what] - 1));
            refused("he(" + what + ") least int", -4, x -> x.he(what, LEAST));
            refused("he(" + what + ") above", -6, x -> x.he(what, most[what] + 1));
            refused("he(" + what + ") greatest int", -6, x -> x.he(what, GREATEST));
        }
    }

    private static void ofReaders() {
        for (int kind : new int[] {-1, 6, LEAST, GREATEST}) {
            refused("reads(" + kind + ", 0, -1)", -2, x -> x.reads(kind, 0, -1));
            refused("follow(" + kind + ")", -2, x -> x.follow(kind));
            refused("mean(" + kind + ", 0)", -2, x -> x.mean(kind, 0));
            refused("mean(" + kind + ", 2)", -2, x -> x.mean(kind, 2));
            refused("hardest(" + kind + ")", -2, x -> x.hardest(kind));
            refused("speak(" + kind + ", 0)", -2, x -> x.speak(kind, 0));
            refused("speak(" + kind + ", 2)", -2, x -> x.speak(kind, 2));
            refused("evenings(" + kind + ", 0, 1)", -2, x -> x.evenings(kind, 0, 1));
            refused("evenings(" + kind + ", 21, 1)", -2, x -> x.evenings(kind, 21, 1));
        }
        for (int part : new int[] {-1, 2, LEAST, GREATEST}) {
            refused("mean(0, " + part + ")", -2, x -> x.mean(0, part));
            refused("speak(0, " + part + ")", -2, x -> x.speak(0, part));
        }
        for (int word : new int[] {-1, 9, LEAST, GREATEST}) {
            refused("reads(0, " + word + ", -1)", -2, x -> x.reads(0, word, -1));
            refused("reads(5, " + word + ", 0)", -2, x -> x.reads(5, word, 0));
        }
        refused("reads(0, 0, -1)", -4, x -> x.reads(0, 0, -1));
        refused("reads(5, 8, least int)", -4, x -> x.reads(5, 8, LEAST));
        refused("evenings(5, 0, 1)", -4, x -> x.evenings(5, 0, 1));
        refused("evenings(5, least int, 1)", -4, x -> x.evenings(5, LEAST, 1));
        refused("evenings(5, 21, 1)", -6, x -> x.evenings(5, 21, 1));
        refused("evenings(5, greatest int, 1)", -6, x -> x.evenings(5, GREATEST, 1));
    }

    private static void ofSayings() {
        for (int word : new int[] {-1, 9, LEAST, GREATEST}) {
            refused("saying(0, " + word + ")", -2, x -> x.saying(0, word));
        }
        refusedIn(FULL, "saying(0, 0)", -6, x -> x.saying(0, 0));
        refusedIn(FULL, "saying(23, 8)", -6, x -> x.saying(23, 8));
        for (int state : new int[] {0, 1, GONE}) {
            takenIn(state, "saying(0, 0)", x -> x.saying(0, 0));
            takenIn(state, "saying(23, 8)", x -> x.saying(23, 8));
        }
    }

    /** What is refused by what there is, not by its arguments alone. */
    private static void ofStates() {
        refusedIn(FULL, "letter(0)", -6, x -> x.letter(0));
        refusedIn(FULL, "letter(255)", -6, x -> x.letter(255));
        refusedIn(FULL, "row(0)", -6, x -> x.row(0));
        refusedIn(FULL, "row(24)", -6, x -> x.row(24));
        for (int state : new int[] {0, 1, GONE}) {
            takenIn(state, "letter(0)", x -> x.letter(0));
            takenIn(state, "letter(255)", x -> x.letter(255));
            takenIn(state, "row(0)", x -> x.row(0));
            takenIn(state, "row(24)", x -> x.row(24));
        }
        refusedIn(GONE, "taught()", -3, x -> x.taught());
        refusedIn(0, "on()", -3, x -> x.on());
        refusedIn(GONE, "on()", -3, x -> x.on());
        for (int state : new int[] {1, FULL}) {
            takenIn(state, "on()", x -> x.on());
        }
        for (int state : new int[] {0, 1, FULL}) {
            takenIn(state, "taught()", x -> x.taught());
        }
    }

    /** The least and the greatest of each argument that is taken. */
    private static void ofNone() {
        for (int cell : new int[] {0, 23}) {
            taken("sore(" + cell + ")", x -> x.sore(cell));
            taken("heal(" + cell + ")", x -> x.heal(cell));
            taken("stroke(" + cell + ")", x -> x.stroke(cell));
            taken("far(" + cell + ", " + cell + ")", x -> x.far(cell, cell));
            taken("word(" + cell + ", " + cell + ")", x -> x.word(cell, cell));
            taken("behind(" + cell + ", 0)", x -> x.behind(cell, 0));
            taken("behind(" + cell + ", 20)", x -> x.behind(cell, 20));
            taken("bears(" + cell + ", " + (23 - cell) + ")", x -> x.bears(cell, 23 - cell));
            taken("grid(1, 1, " + cell + ", 0)", x -> x.grid(1, 1, cell, 0));
            taken("grid(4, 6, " + cell + ", 1)", x -> x.grid(4, 6, cell, 1));
        }
        for (int part : new int[] {0, 1}) {
            taken("itch(" + part + ")", x -> x.itch(part));
            taken("may(" + part + ")", x -> x.may(part));
            taken("next(" + part + ")", x -> x.next(part));
            taken("fewest(" + part + ")", x -> x.fewest(part));
            taken("odds(0, " + part + ")", x -> x.odds(0, part));
            taken("odds(23, " + part + ")", x -> x.odds(23, part));
            taken("mean(0, " + part + ")", x -> x.mean(0, part));
            taken("mean(5, " + part + ")", x -> x.mean(5, part));
            taken("speak(0, " + part + ")", x -> x.speak(0, part));
            taken("speak(5, " + part + ")", x -> x.speak(5, part));
        }
        for (int kind : new int[] {0, 5}) {
            taken("reads(" + kind + ", 0, 0)", x -> x.reads(kind, 0, 0));
            taken("reads(" + kind + ", 8, greatest int)", x -> x.reads(kind, 8, GREATEST));
            taken("follow(" + kind + ")", x -> x.follow(kind));
            taken("hardest(" + kind + ")", x -> x.hardest(kind));
            taken("evenings(" + kind + ", 1, least int)", x -> x.evenings(kind, 1, LEAST));
            taken("evenings(" + kind + ", 20, greatest int)", x -> x.evenings(kind, 20, GREATEST));
        }
        int[][] he = {{0, 0, 1}, {1, 1, 3}, {2, 2, 5}, {3, 0, 5}};
        for (int[] row : he) {
            taken("he(" + row[0] + ", least)", x -> x.he(row[0], row[1]));
            taken("he(" + row[0] + ", most)", x -> x.he(row[0], row[2]));
        }
        taken("strip(0)", x -> x.strip(0));
        taken("strip(9)", x -> x.strip(9));
    }

    /** Calls that tell no REFUSAL, whatever they answer. */
    private static void ofCallsThatRefuseNothing() {
        for (int what : new int[] {-1, 0, 9, 10, 11, 16, 17, LEAST, GREATEST}) {
            taken("count(" + what + ")", x -> x.count(what));
        }
        taken("back()", x -> x.back());
        taken("say()", x -> x.say());
        taken("hush()", x -> x.hush());
        taken("heMany()", x -> x.heMany());
        taken("bestStrip()", x -> x.bestStrip());
        taken("kinds()", x -> x.kinds());
        taken("judge()", x -> x.judge());
        taken("image()", x -> x.image());
    }

    private static void ofTheRest() {
        refused("letter(-1)", -4, x -> x.letter(-1));
        refused("letter(256)", -6, x -> x.letter(256));
        refused("behind(0, -1)", -4, x -> x.behind(0, -1));
        refused("behind(0, least int)", -4, x -> x.behind(0, LEAST));
        refused("behind(0, 21)", -6, x -> x.behind(0, 21));
        refused("row(-1)", -4, x -> x.row(-1));
        refused("row(25)", -6, x -> x.row(25));
        refused("grid(0, 7, 24, 2)", -4, x -> x.grid(0, 7, 24, 2));
        refused("grid(5, 0, 24, 2)", -4, x -> x.grid(5, 0, 24, 2));
        refused("grid(5, 6, 24, 2)", -6, x -> x.grid(5, 6, 24, 2));
        refused("grid(4, 7, 24, 2)", -6, x -> x.grid(4, 7, 24, 2));
        refused("grid(greatest, greatest, 0, 0)", -6, x -> x.grid(GREATEST, GREATEST, 0, 0));
    }
}
