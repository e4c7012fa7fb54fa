/** Promises 34 to 36: THE IMAGE, ON, count. */
public final class ImageTest {
    private static final Check check = new Check();

    public static void main(String[] args) {
        none();
        onFromIt();
        whatIsNotInIt();
        takenAgain();
        counts();
        check.end();
    }

    private static void none() {
        HigherMoreLeft x = Check.told("s05;");
        check.due("on() without", x.on(), -3);
        check.due("that is counted", x.count(13), 1);
        check.due("TIME stays", x.count(0), 1);
    }

    private static void change(HigherMoreLeft x) {
        Check.tell(x, "if20;h125;m4;s01;s02;o059;");
    }

    private static void onFromIt() {
        HigherMoreLeft x = Check.told("is08;h012;m3;s01;s02;o113;");
        check.due("image()", x.image(), 2);
        for (int i = 0; i < 2; i++) {
            change(x);
            x.stroke(9);
            x.heal(11);
            check.due("TIME went", x.count(0), 5);
            check.due("on()", x.on(), 2);
            check.due("KIND", x.itch(0), 4);
            check.due("CELL", x.itch(1), 9);
            check.due("TIME", x.count(0), 2);
            check.due("HAND", x.count(1), 2);
            check.due("all SORE", x.count(2), 5);
            check.due("sore(1)", x.sore(1), 1);
            check.due("sore(5)", x.sore(5), 0);
            check.due("sore(11)", x.sore(11), 3);
            check.due("LEFT", x.count(3), 0);
            check.due("BIT", x.count(4), 1);
            check.due("LOT", x.count(5), 2);
            check.due("SEAM", x.count(6), 3);
        }
        HigherMoreLeft gone = Check.told("ih00;s00;");
        gone.image();
        Check.tell(gone, "ii05;");
        gone.on();
        check.due("GONE as then", gone.itch(1), 24);
        check.due("its KIND as then", gone.itch(0), 2);
    }

    private static void whatIsNotInIt() {
        HigherMoreLeft x = new HigherMoreLeft();
        x.saying(3, 4);
        x.row(7);
        x.letter('m');
        x.sore(24);
        check.due("image()", x.image(), 0);
        x.saying(5, 6);
        x.row(8);
        x.letter('3');
        x.sore(24);
        x.stroke(20);
        check.due("on()", x.on(), 0);
        check.due("SAYINGS stay", x.count(7), 2);
        check.due("the ROW stays", x.count(8), 2);
        check.due("letters stay", x.count(9), 2);
        check.due("REFUSALS stay", x.count(11), 2);
        x.letter(';');
        check.due("they become a BACK", x.back(), 1);
        check.due("the SEAM", x.count(6), 3);
        x.hush();
        x.judge();
        x.on();
        check.due("hushed stays hushed", x.count(7), 0);
        check.due("judged stays judged", x.count(8), 0);
        check.due("the SEAM as then", x.count(6), 0);
    }

    private static void takenAgain() {
        HigherMoreLeft x = new HigherMoreLeft();
        x.image();
        x.stroke(20);
        check.due("image() again", x.image(), 1);
        x.stroke(20);
        check.due("on() from the later", x.on(), 1);
        check.due("sore(20)", x.sore(20), 1);
        x.stroke(3);
        check.due("on() again", x.on(), 1);
        check.due("sore(3)", x.sore(3), 0);
    }

    private static void counts() {
        HigherMoreLeft x = Check.told("ih08;h124;m3;s01;s02;o113;");
        x.saying(3, 4);
        x.row(7);
        x.row(7);
        x.letter('m');
        x.letter('m');
        x.letter('m');
        x.sore(-1);
        x.itch(2);
        x.itch(2);
        x.on();
        x.on();
        x.on();
        x.row(-1);
        x.row(25);
        x.row(25);
        int[] want = {2, 2, 5, 1, 2, 4, 3, 1, 2, 3, -9, 1, 2, 3, 1, 0, 2, -9};
        for (int what = 0; what < want.length; what++) {
            check.due("count(" + what + ")", x.count(what), want[what]);
        }
        for (int what : new int[] {-1, 18, 100, Integer.MIN_VALUE, Integer.MAX_VALUE}) {
            check.due("count(" + what + ")", x.count(what), -9);
        }
        for (int what = 11; what <= 16; what++) {
            check.due("count refuses nothing " + what, x.count(what), want[what]);
        }
    }
}
