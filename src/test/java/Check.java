/** What the tests share: answers compared with those that are due. */
final class Check {
    private int wrong = 0;
    private int looked = 0;

    void due(String call, long got, long want) {
        looked++;
        if (got != want) {
            wrong++;
            System.out.println(call + " answered " + got + ", due is " + want);
        }
    }

    void end() {
        System.out.println(looked + " answers looked at, " + wrong + " wrong");
        if (wrong != 0 || looked == 0) {
            System.exit(1);
        }
    }

    /** A CELL's two digits in a BACK. */
    static String two(int cell) {
        return (cell < 10 ? "0" : "") + cell;
    }

    /** A new object on which a BACK was told, which must be without FAULT. */
    static HigherMoreLeft told(String text) {
        HigherMoreLeft x = new HigherMoreLeft();
        int answer = tell(x, text);
        if (answer < 1) {
            throw new IllegalStateException("the back " + text + " has the fault " + answer);
        }
        return x;
    }

    static int tell(HigherMoreLeft x, String text) {
        for (int i = 0; i < text.length(); i++) {
            x.letter(text.charAt(i));
        }
        return x.back();
    }
}
