/** The edges of promises 34 to 36: no IMAGE, what is in it and what is not, the least and greatest of each count. */
public final class ImageEdgeTest {
    private static final Check check = new Check();

    public static void main(String[] args) {
        noImage();
        imageOfANewObject();
        onAgainAndAgain();
        theLaterImage();
        allThatIsInIt();
        allThatIsNotInIt();
        imageOfWhatIsGone();
        countsAtFirst();
        countsAtTheirMost();
        countsOfRefusals();
        noOtherCounts();
        check.end();
    }

    /** "-3 there is none" */
    private static void noImage() {
        HigherMoreLeft x = Check.told("ih05;s23;");
        check.due("on() without", x.on(), -3);
        check.due("on() without again", x.on(), -3);
        check.due("count(13)", x.count(13), 2);
        check.due("TIME stays", x.count(0), 1);
        check.due("HAND stays", x.count(1), 23);
        check.due("image()", x.image(), 1);
        check.due("on()", x.on(), 1);
        check.due("count(13) stays", x.count(13), 2);
    }

    private static void imageOfANewObject() {
        HigherMoreLeft x = new HigherMoreLeft();
        check.due("image() at first", x.image(), 0);
        Check.tell(x, "if23;h135;m5;s23;o009;");
        check.due("on()", x.on(), 0);
        check.due("as at first", Probe.now(x).equals(Probe.now(new HigherMoreLeft())) ? 1 : 0, 1);
    }

    /** "but it": THE IMAGE stays when all goes ON from it. */
    private static void onAgainAndAgain() {
        HigherMoreLeft x = Check.told("m1;is08;s00;");
        x.image();
        for (int i = 0; i < 4; i++) {
            check.due("stroke(8)", x.stroke(8), 7);
            check.due("stroke(7)", x.stroke(7), 7);
            check.due("TIME", x.count(0), 3);
            Check.tell(x, "if20;");
            check.due("on()", x.on(), 1);
            check.due("on() at once", x.on(), 1);
            check.due("CELL", x.itch(1), 7);
            check.due("sore(8)", x.sore(8), 0);
        }
    }

    private static void theLaterImage() {
        HigherMoreLeft x = Check.told("ih08;");
        for (int time = 0; time <= 4; time++) {
            check.due("image() at " + time, x.image(), time);
            x.stroke(time);
            x.stroke(23);
            check.due("on() from " + time, x.on(), time);
            check.due("HAND", x.count(1), Math.max(0, time - 1));
            check.due("sore(23)", x.sore(23), 0);
            x.stroke(time);
        }
    }

    /** "all that there is": each alone is changed behind it and is as then. */
    private static void allThatIsInIt() {
        String[] changes = {
            "if09;", "is23;", "h013;", "h134;", "h125;", "m4;", "s09;", "s23;", "o090;", "o001;", "o239;"};
        for (String change : changes) {
            HigherMoreLeft x = Check.told("is08;h124;m3;s09;o115;s22;");
            String then = Probe.now(x);
            check.due("image()", x.image(), 2);
            Check.tell(x, change);
            check.due(change + " changes something", Probe.now(x).equals(then) ? 1 : 0, 0);
            check.due("on()", x.on(), 2);
            check.due(change + " is as then", Probe.now(x).equals(then) ? 1 : 0, 1);
        }
        HigherMoreLeft x = Check.told("is08;h124;m3;s09;o115;s22;");
        String then = Probe.now(x);
        x.image();
        x.he(0, 0);
        x.he(1, 1);
        x.he(2, 2);
        x.he(3, 0);
        x.heal(11);
        x.stroke(0);
        x.on();
        check.due("he, heal and stroke are as then", Probe.now(x).equals(then) ? 1 : 0, 1);
    }

    /** "but it, SAYINGS, the ROW, letters, REFUSALS" */
    private static void allThatIsNotInIt() {
        HigherMoreLeft x = new HigherMoreLeft();
        x.image();
        for (int i = 0; i < 8; i++) {
            x.saying(20, 8);
        }
        for (int i = 0; i < 20; i++) {
            x.row(24);
        }
        for (int i = 0; i < 80; i++) {
            x.letter("s09;".charAt(i % 4));
        }
        x.sore(24);
        x.itch(2);
        x.he(3, -1);
        x.row(0);
        check.due("on()", x.on(), 0);
        int[] counts = {0, 0, 0, 0, 1, 3, 0, 8, 20, 80, -9, 1, 1, 0, 1, 0, 1};
        for (int what = 0; what < counts.length; what++) {
            check.due("count(" + what + ") behind on()", x.count(what), counts[what]);
        }
        check.due("SAYINGS are as they were", x.may(0), 1 << 20);
        check.due("the ROW is as it was", x.kinds(), 1 + 2 + 4 + 32);
        check.due("letters are as they were", x.back(), 20);
        x.hush();
        x.judge();
        check.due("on() without them", x.on(), 0);
        check.due("SAYINGS are none", x.count(7), 0);
        check.due("the ROW has none", x.count(8), 0);
        check.due("letters are none", x.count(9), 0);
        check.due("TIME", x.count(0), 0);
    }

    private static void imageOfWhatIsGone() {
        HigherMoreLeft x = Check.told("ic05;s05;");
        check.due("image()", x.image(), 1);
        Check.tell(x, "if00;");
        check.due("on()", x.on(), 1);
        check.due("GONE as then", x.itch(1), 24);
        check.due("its KIND", x.itch(0), 1);
        Check.tell(x, "if00;");
        x.image();
        x.stroke(0);
        Check.tell(x, "ic05;s05;");
        check.due("on()", x.on(), 1);
        check.due("there as then", x.itch(1), 0);
        check.due("its KIND", x.itch(0), 3);
    }

    private static void counts(String name, HigherMoreLeft x, int... due) {
        for (int what = 0; what < due.length; what++) {
            check.due(name + ": count(" + what + ")", x.count(what), due[what]);
        }
    }

    private static void countsAtFirst() {
        counts("new", new HigherMoreLeft(), 0, 0, 0, 0, 1, 3, 0, 0, 0, 0, -9, 0, 0, 0, 0, 0, 0, -9);
        counts("least", Check.told("h012;m0;"), 0, 0, 0, 0, 1, 2, 0, 0, 0, 0);
    }

    private static void countsAtTheirMost() {
        HigherMoreLeft x = Check.told("h135;m5;");
        for (int cell = 0; cell < 24; cell++) {
            Check.tell(x, "o" + Check.two(cell) + "9;");
        }
        x.stroke(23);
        for (int i = 0; i < 80; i++) {
            x.saying(0, 0);
            x.row(0);
            x.letter(0);
        }
        counts("most", x, 1, 23, 216, 1, 3, 5, 5, 8, 20, 80, -9, 0, 0, 0, 0, 0, 72 + 60, -9);
    }

    /** "11 .. 16 REFUSALS -1 .. -6": each in its own, of ints and of longs. */
    private static void countsOfRefusals() {
        HigherMoreLeft x = new HigherMoreLeft();
        x.sore(24);
        counts("-1", x, 0, 0, 0, 0, 1, 3, 0, 0, 0, 0, -9, 1, 0, 0, 0, 0, 0, -9);
        x.odds(24, 0);
        x.odds(0, 2);
        counts("-2", x, 0, 0, 0, 0, 1, 3, 0, 0, 0, 0, -9, 2, 1, 0, 0, 0, 0, -9);
        x.mean(6, 0);
        x.on();
        counts("-3", x, 0, 0, 0, 0, 1, 3, 0, 0, 0, 0, -9, 2, 2, 1, 0, 0, 0, -9);
        x.letter(-1);
        x.row(-1);
        x.behind(0, -1);
        counts("-4", x, 0, 0, 0, 0, 1, 3, 0, 0, 0, 0, -9, 2, 2, 1, 3, 0, 0, -9);
        x.he(2, 6);
        counts("-6", x, 0, 0, 0, 0, 1, 3, 0, 0, 0, 0, -9, 2, 2, 1, 3, 0, 1, -9);
    }

    /** "-9 for another what", which is no REFUSAL. */
    private static void noOtherCounts() {
        HigherMoreLeft x = new HigherMoreLeft();
        for (int what : new int[] {-1, 10, 17, 18, Integer.MIN_VALUE, Integer.MAX_VALUE}) {
            check.due("count(" + what + ")", x.count(what), -9);
        }
        for (int what = 11; what <= 16; what++) {
            check.due("no REFUSAL " + what, x.count(what), 0);
        }
    }
}
