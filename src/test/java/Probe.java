/** What an object answers, written as one text, so that two objects can be compared. */
final class Probe {
    private Probe() {
    }

    /** What it answers without a change by it. */
    static String now(HigherMoreLeft x) {
        StringBuilder text = new StringBuilder("itch ");
        text.append(x.itch(0)).append(' ').append(x.itch(1));
        text.append(", say ").append(x.say()).append(", sore");
        for (int cell = 0; cell < 24; cell++) {
            text.append(' ').append(x.sore(cell));
        }
        text.append(", count");
        for (int what = 0; what <= 9; what++) {
            text.append(' ').append(x.count(what));
        }
        text.append(", said ").append(x.may(0)).append(' ').append(x.may(1)).append(' ').append(x.heMany());
        for (int cell = 0; cell < 24; cell++) {
            text.append(' ').append(x.odds(cell, 0));
        }
        text.append(", read");
        for (int reader = 0; reader < 6; reader++) {
            text.append(' ').append(x.reads(reader, 7, 0)).append(' ').append(x.follow(reader));
        }
        return text.append(", kinds ").append(x.kinds()).toString();
    }

    static String refusals(HigherMoreLeft x) {
        StringBuilder text = new StringBuilder("refusals");
        for (int what = 11; what <= 16; what++) {
            text.append(' ').append(x.count(what));
        }
        return text.toString();
    }

    /** The same, and what letters, ROW, IMAGE and SAYINGS hold: the object is used up by it. */
    static String toTheEnd(HigherMoreLeft x) {
        StringBuilder text = new StringBuilder(now(x));
        text.append("\njudge ").append(x.judge()).append(", row ").append(x.count(8));
        text.append("\nletter ").append(x.letter(';')).append(", back ").append(x.back()).append(' ').append(now(x));
        text.append("\non ").append(x.on()).append(' ').append(now(x));
        text.append("\nhush ").append(x.hush()).append(' ').append(now(x));
        return text.toString();
    }
}
