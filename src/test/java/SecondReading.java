import java.math.BigInteger;
import java.util.ArrayList;
import java.util.List;
import java.util.regex.Matcher;
import java.util.regex.Pattern;

/**
 * The document's words written down a second time, in another way than the
 * class does it: rows and columns instead of numbers of CELLS, patterns instead
 * of letters, every path instead of a short way. The class must answer as this
 * does. Where the document is unclear, both read it as NOTES.md tells, so what
 * is read wrong there is not seen by this.
 */
final class SecondReading {
    private static final int GONE = 24;
    private static final String LETTERS_OF_KINDS = "ichfsn";
    private static final Pattern STATEMENT =
            Pattern.compile("i[ichfsn][0-9][0-9];|h[0-9][0-9][0-9];|m[0-9];|s[0-9][0-9];|o[0-9][0-9][0-9];");
    private static final Pattern BACK = Pattern.compile("(?:" + STATEMENT.pattern() + ")+");

    /** All that an IMAGE holds. */
    private static final class State implements Cloneable {
        private int[][] sore = new int[4][6];
        private char kind = 'i';
        private int cell = 0;
        private int hand = 0;
        private int time = 0;
        private int left = 0;
        private int bit = 1;
        private int lot = 3;
        private int seam = 0;

        private State copy() {
            State other = new State();
            for (int row = 0; row < 4; row++) {
                other.sore[row] = sore[row].clone();
            }
            other.kind = kind;
            other.cell = cell;
            other.hand = hand;
            other.time = time;
            other.left = left;
            other.bit = bit;
            other.lot = lot;
            other.seam = seam;
            return other;
        }
    }

    private record Saying(int cell, int word) {
    }

    private State now = new State();
    private State image = null;
    private final StringBuilder letters = new StringBuilder();
    private final List<Saying> sayings = new ArrayList<>();
    private final List<Integer> row = new ArrayList<>();
    private final int[] refusals = new int[7];

    private int refused(int number) {
        refusals[-number]++;
        return number;
    }

    private long refusedLong(int number) {
        refusals[-number]++;
        return 4000000000000000000L - number;
    }

    private static boolean cell(int v) {
        return v >= 0 && v <= 23;
    }

    private static boolean kind(int v) {
        return v >= 0 && v <= 5;
    }

    // Letters and BACKS.

    int letter(int c) {
        if (c < 0) {
            return refused(-4);
        }
        if (c > 255 || letters.length() == 80) {
            return refused(-6);
        }
        return letters.append((char) c).length();
    }

    private static boolean canGoOn(String start) {
        Matcher matcher = BACK.matcher(start);
        return matcher.matches() || matcher.hitEnd();
    }

    int back() {
        String text = letters.toString();
        letters.setLength(0);
        for (int end = 1; end <= text.length(); end++) {
            if (!canGoOn(text.substring(0, end))) {
                return -1000 - (end - 1);
            }
        }
        if (!BACK.matcher(text).matches()) {
            return -1000 - text.length();
        }
        State told = now.copy();
        int many = 0;
        Matcher statements = STATEMENT.matcher(text);
        while (statements.find()) {
            if (!comes(told, statements.group())) {
                return -2000 - statements.start();
            }
            many++;
        }
        now = told;
        return many;
    }

    private static boolean comes(State told, String statement) {
        int first = statement.charAt(1) - '0';
        int two = statement.charAt(0) == 'm' || statement.charAt(0) == 'i'
                ? 0 : Integer.parseInt(statement.substring(1, 3));
        switch (statement.charAt(0)) {
            case 'i':
                int at = Integer.parseInt(statement.substring(2, 4));
                told.kind = statement.charAt(1);
                told.cell = at;
                return at <= 23;
            case 'h':
                told.left = first;
                told.bit = two % 10;
                told.lot = statement.charAt(3) - '0';
                return first <= 1 && told.bit >= 1 && told.bit <= 3 && told.lot >= 2 && told.lot <= 5;
            case 'm':
                told.seam = first;
                return first <= 5;
            case 's':
                if (two > 23 || told.time == 999) {
                    return false;
                }
                stroke(told, two);
                return true;
            default:
                if (two > 23) {
                    return false;
                }
                told.sore[two / 6][two % 6] = statement.charAt(3) - '0';
                return true;
        }
    }

    // Strokes.

    private static int apart(int one, int other) {
        return Math.abs(one / 6 - other / 6) + Math.abs(one % 6 - other % 6);
    }

    private static void stroke(State s, int at) {
        if (s.sore[at / 6][at % 6] < 9) {
            s.sore[at / 6][at % 6]++;
        }
        s.hand = at;
        if (s.cell != GONE) {
            s.cell = s.cell == at ? struck(s) : beside(s);
        }
        s.time++;
    }

    private static int struck(State s) {
        if (s.kind == 'f') {
            int cell = s.cell;
            for (int i = 0; i < 7; i++) {
                cell = cell == 23 ? 0 : cell + 1;
            }
            return cell;
        }
        if (s.kind == 's' && s.sore[s.cell / 6][s.cell % 6] < 3) {
            return s.cell;
        }
        return GONE;
    }

    private static int beside(State s) {
        int r = s.cell / 6;
        int c = s.cell % 6;
        switch (s.kind) {
            case 'n':
                return GONE;
            case 's':
                c = c < s.seam ? c + 1 : c > s.seam ? c - 1 : c;
                return 6 * r + c;
            case 'h':
                return s.cell;
            case 'i':
                return fled(s);
            case 'c':
                return crept(s);
            default:
                int to = crept(s);
                return to == s.cell && s.sore[r][5 - c] == 0 ? 6 * r + 5 - c : to;
        }
    }

    private static int crept(State s) {
        return (s.time == 0 || s.time % 3 == 0) && s.cell + 6 <= 23 ? s.cell + 6 : fled(s);
    }

    private static int fled(State s) {
        if (s.hand / 6 != s.cell / 6 || apart(s.hand, s.cell) != 1) {
            return s.cell;
        }
        int c = s.cell % 6 + (s.cell % 6 - s.hand % 6);
        return c < 0 || c > 5 ? s.cell : s.cell / 6 * 6 + c;
    }

    int itch(int what) {
        if (what == 0) {
            return LETTERS_OF_KINDS.indexOf(now.kind);
        }
        return what == 1 ? now.cell : refused(-2);
    }

    int sore(int at) {
        return cell(at) ? now.sore[at / 6][at % 6] : refused(-1);
    }

    int heal(int at) {
        if (!cell(at)) {
            return refused(-1);
        }
        int was = now.sore[at / 6][at % 6];
        now.sore[at / 6][at % 6] = 0;
        return was;
    }

    int he(int what, int v) {
        if (what < 0 || what > 3) {
            return refused(-2);
        }
        if (v < (what == 1 ? 1 : what == 2 ? 2 : 0)) {
            return refused(-4);
        }
        if (v > (what == 0 ? 1 : what == 1 ? 3 : 5)) {
            return refused(-6);
        }
        int was = count(3 + what);
        now.left = what == 0 ? v : now.left;
        now.bit = what == 1 ? v : now.bit;
        now.lot = what == 2 ? v : now.lot;
        now.seam = what == 3 ? v : now.seam;
        return was;
    }

    int stroke(int at) {
        if (!cell(at)) {
            return refused(-1);
        }
        if (now.time == 999) {
            return refused(-6);
        }
        stroke(now, at);
        return now.cell;
    }

    int far(int one, int other) {
        return cell(one) && cell(other) ? apart(one, other) : refused(-1);
    }

    int behind(int at, int n) {
        if (!cell(at)) {
            return refused(-1);
        }
        if (n < 0 || n > 20) {
            return refused(n < 0 ? -4 : -6);
        }
        State mind = now.copy();
        for (int i = 1; i <= n; i++) {
            stroke(mind, at);
        }
        return mind.cell;
    }

    // WORDS and READERS.

    private static int word(int from, int at, int left, int lot) {
        if (at == GONE) {
            return 9;
        }
        int rows = Math.abs(from / 6 - at / 6);
        if (rows > 0) {
            return (at / 6 < from / 6 ? 0 : 1) + (rows < lot ? 0 : 4);
        }
        int columns = Math.abs(from - at);
        if (columns == 0) {
            return 8;
        }
        int way = at < from ? 2 : 3;
        return (left == 0 ? way : 5 - way) + (columns < lot ? 0 : 4);
    }

    private static int word(State s) {
        return word(s.hand, s.cell, s.left, s.lot);
    }

    int say() {
        return word(now);
    }

    int word(int at, int itch) {
        return cell(at) && cell(itch) ? word(at, itch, now.left, now.lot) : refused(-1);
    }

    private static int reads(State s, int reader, int word, int n) {
        if (reader == 5) {
            return n % 24;
        }
        if (word == 8) {
            return s.hand;
        }
        boolean aLot = word >= 4;
        int on = aLot ? s.lot : s.bit;
        if (reader == 1 || reader == 4 && !aLot) {
            on = 1;
        } else if (reader == 2) {
            on = on + on;
        }
        String way = List.of("up", "down", "left", "right").get(word % 4);
        if (reader == 3 && word % 4 >= 2) {
            way = way.equals("left") ? "right" : "left";
        }
        int cell = s.hand;
        for (int i = 0; i < on; i++) {
            if (way.equals("up") && cell / 6 > 0) {
                cell -= 6;
            } else if (way.equals("down") && cell / 6 < 3) {
                cell += 6;
            } else if (way.equals("left") && cell % 6 > 0) {
                cell--;
            } else if (way.equals("right") && cell % 6 < 5) {
                cell++;
            }
        }
        return cell;
    }

    int reads(int reader, int word, int n) {
        if (!kind(reader) || word < 0 || word > 8) {
            return refused(-2);
        }
        return n < 0 ? refused(-4) : reads(now, reader, word, n);
    }

    /** -9, if it is not GONE by 40 strokes. */
    private static int follow(State start, int reader) {
        State s = start.copy();
        int strokes = 0;
        while (s.cell != GONE && strokes < 40) {
            stroke(s, reads(s, reader, word(s), strokes));
            strokes++;
        }
        return s.cell == GONE ? strokes : -9;
    }

    private static int followOr(State start, int reader, int none) {
        int strokes = follow(start, reader);
        return strokes == -9 ? none : strokes;
    }

    private State withItchAt(int cell) {
        State s = now.copy();
        s.cell = cell;
        return s;
    }

    int follow(int reader) {
        return kind(reader) ? follow(now, reader) : refused(-2);
    }

    private static long part(BigInteger above, BigInteger below, int part) {
        BigInteger divisor = above.gcd(below);
        return (part == 0 ? above : below).divide(divisor).longValueExact();
    }

    long mean(int reader, int part) {
        if (!kind(reader) || part < 0 || part > 1) {
            return refusedLong(-2);
        }
        int all = 0;
        for (int cell = 0; cell <= 23; cell++) {
            all += followOr(withItchAt(cell), reader, 40);
        }
        return part(BigInteger.valueOf(all), BigInteger.valueOf(24), part);
    }

    int hardest(int reader) {
        if (!kind(reader)) {
            return refused(-2);
        }
        int hardest = 0;
        for (int cell = 1; cell <= 23; cell++) {
            if (followOr(withItchAt(cell), reader, 40) > followOr(withItchAt(hardest), reader, 40)) {
                hardest = cell;
            }
        }
        return hardest;
    }

    int speak(int reader, int what) {
        if (!kind(reader) || what < 0 || what > 1) {
            return refused(-2);
        }
        int best = -1;
        int least = 1000;
        for (int he = 12; he <= 35; he++) {
            State s = now.copy();
            s.bit = he / 10;
            s.lot = he % 10;
            if (s.lot >= 2 && s.lot <= 5 && followOr(s, reader, 41) < least) {
                least = followOr(s, reader, 41);
                best = he;
            }
        }
        return what == 0 ? best : least;
    }

    // SAYINGS.

    int saying(int at, int word) {
        if (!cell(at)) {
            return refused(-1);
        }
        if (word < 0 || word > 8) {
            return refused(-2);
        }
        if (sayings.size() == 8) {
            return refused(-6);
        }
        sayings.add(new Saying(at, word));
        return sayings.size();
    }

    int hush() {
        int were = sayings.size();
        sayings.clear();
        return were;
    }

    private int so(int cell, int left, int lot) {
        return (int) sayings.stream().filter(s -> word(s.cell(), cell, left, lot) == s.word()).count();
    }

    private List<Integer> cells(int left, int lot) {
        List<Integer> cells = new ArrayList<>();
        for (int cell = 0; cell <= 23; cell++) {
            if (so(cell, left, lot) == sayings.size()) {
                cells.add(cell);
            }
        }
        return cells;
    }

    private static int bits(List<Integer> cells) {
        int bits = 0;
        for (int cell : cells) {
            bits |= 1 << cell;
        }
        return bits;
    }

    int may(int any) {
        if (any != 0 && any != 1) {
            return refused(-2);
        }
        int bits = 0;
        for (int he = 0; he < 8; he++) {
            bits |= bits(cells(he / 4, 2 + he % 4));
        }
        return any == 1 ? bits : bits(cells(now.left, now.lot));
    }

    int heMany() {
        int many = 0;
        for (int he = 0; he < 8; he++) {
            many += cells(he / 4, 2 + he % 4).isEmpty() ? 0 : 1;
        }
        return many;
    }

    /** How likely all the SAYINGS are at a CELL, times 80 for each of them. */
    private BigInteger likely(int cell) {
        BigInteger product = BigInteger.ONE;
        for (Saying s : sayings) {
            boolean so = word(s.cell(), cell, now.left, now.lot) == s.word();
            product = product.multiply(BigInteger.valueOf(so ? 72 : 1));
        }
        return product;
    }

    long odds(int at, int part) {
        if (!cell(at)) {
            return refusedLong(-1);
        }
        if (part != 0 && part != 1) {
            return refusedLong(-2);
        }
        BigInteger all = BigInteger.ZERO;
        for (int cell = 0; cell <= 23; cell++) {
            all = all.add(likely(cell));
        }
        return part(likely(at), all, part);
    }

    int next(int what) {
        if (what != 0 && what != 1) {
            return refused(-2);
        }
        List<Integer> cells = cells(now.left, now.lot);
        int best = -9;
        int fewest = cells.isEmpty() ? -9 : 1000;
        for (int from = 0; from <= 23 && !cells.isEmpty(); from++) {
            int[] left = new int[10];
            int worst = 0;
            for (int cell : cells) {
                worst = Math.max(worst, ++left[word(from, cell, now.left, now.lot)]);
            }
            if (worst < fewest) {
                fewest = worst;
                best = from;
            }
        }
        return what == 0 ? best : fewest;
    }

    int taught() {
        if (now.cell == GONE) {
            return refused(-3);
        }
        int best = 2;
        for (int he = 0; he < 8; he++) {
            if (so(now.cell, he / 4, 2 + he % 4) > so(now.cell, best / 10, best % 10)) {
                best = 10 * (he / 4) + 2 + he % 4;
            }
        }
        return best;
    }

    // STRIPS, FEWEST, BEARS, GRID.

    private int behindStrip(int s) {
        State mind = now.copy();
        int strokes = 0;
        for (int cell = 0; cell <= 23; cell++) {
            if (mind.cell == GONE) {
                return strokes;
            }
            if (s < 4 ? cell / 6 == s : cell % 6 == s - 4) {
                stroke(mind, cell);
                strokes++;
            }
        }
        return mind.cell == GONE ? strokes : -9;
    }

    int strip(int s) {
        return s >= 0 && s <= 9 ? behindStrip(s) : refused(-1);
    }

    int bestStrip() {
        for (int strokes = 0; strokes <= 6; strokes++) {
            for (int s = 0; s <= 9; s++) {
                if (behindStrip(s) == strokes) {
                    return s;
                }
            }
        }
        return -9;
    }

    int fewest(int what) {
        if (what != 0 && what != 1) {
            return refused(-2);
        }
        if (now.cell == GONE) {
            return what == 0 ? 0 : -9;
        }
        int paths = 1;
        for (int strokes = 1; strokes <= 3; strokes++) {
            paths *= 24;
            for (int path = 0; path < paths; path++) {
                State mind = now.copy();
                for (int i = 0, rest = paths / 24; i < strokes; i++, rest /= 24) {
                    stroke(mind, path / Math.max(1, rest) % 24);
                }
                if (mind.cell == GONE) {
                    return what == 0 ? strokes : path / (paths / 24);
                }
            }
        }
        return -9;
    }

    private int soreAround(int at) {
        int all = 0;
        for (int cell = 0; cell <= 23; cell++) {
            all += apart(at, cell) == 1 ? now.sore[cell / 6][cell % 6] : 0;
        }
        return all;
    }

    int bears(int one, int other) {
        if (!cell(one) || !cell(other) || one == other) {
            return refused(-1);
        }
        int[] a = {now.sore[one / 6][one % 6], soreAround(one), one};
        int[] b = {now.sore[other / 6][other % 6], soreAround(other), other};
        return java.util.Arrays.compare(a, b) < 0 ? one : other;
    }

    int grid(int a, int b, int at, int what) {
        if (a < 1 || b < 1) {
            return refused(-4);
        }
        if (a > 4 || b > 6) {
            return refused(-6);
        }
        if (!cell(at)) {
            return refused(-1);
        }
        if (what != 0 && what != 1) {
            return refused(-2);
        }
        List<Integer> boxes = new ArrayList<>();
        for (int r = 0; r < 4; r++) {
            for (int c = 0; c < 6; c++) {
                boxes.add((int) Math.floor(r * a / 4.0) * b + (int) Math.floor(c * b / 6.0));
            }
        }
        int box = boxes.get(at);
        return what == 0 ? box : java.util.Collections.frequency(boxes, box);
    }

    // The ROW, EVENINGS, THE IMAGE, count.

    int row(int v) {
        if (v < 0) {
            return refused(-4);
        }
        if (v > 24 || row.size() == 20) {
            return refused(-6);
        }
        row.add(v);
        return row.size();
    }

    private int firstNotSo(char kind) {
        State mind = now.copy();
        mind.kind = kind;
        for (int i = 0; i < row.size(); i++) {
            stroke(mind, mind.hand);
            if (mind.cell != row.get(i)) {
                return i;
            }
        }
        return -9;
    }

    int kinds() {
        int bits = 0;
        for (int kind = 0; kind <= 5; kind++) {
            bits |= firstNotSo(LETTERS_OF_KINDS.charAt(kind)) == -9 ? 1 << kind : 0;
        }
        return bits;
    }

    int judge() {
        int first = firstNotSo(now.kind);
        row.clear();
        return first;
    }

    int evenings(int reader, int n, int z) {
        if (!kind(reader)) {
            return refused(-2);
        }
        if (n < 1 || n > 20) {
            return refused(n < 1 ? -4 : -6);
        }
        BigInteger seed = BigInteger.valueOf(z);
        int all = 0;
        for (int i = 0; i < n; i++) {
            seed = seed.multiply(BigInteger.valueOf(1664525)).add(BigInteger.valueOf(1013904223));
            int withoutSign = seed.mod(BigInteger.ONE.shiftLeft(31)).intValueExact();
            State s = withItchAt(withoutSign / 256 % 24);
            s.hand = 0;
            all += followOr(s, reader, 40);
        }
        return all;
    }

    int image() {
        image = now.copy();
        return now.time;
    }

    int on() {
        if (image == null) {
            return refused(-3);
        }
        now = image.copy();
        return now.time;
    }

    int count(int what) {
        int sore = 0;
        for (int cell = 0; cell <= 23; cell++) {
            sore += now.sore[cell / 6][cell % 6];
        }
        int[] counts = {now.time, now.hand, sore, now.left, now.bit, now.lot, now.seam,
            sayings.size(), row.size(), letters.length()};
        if (what >= 0 && what <= 9) {
            return counts[what];
        }
        return what >= 11 && what <= 16 ? refusals[what - 10] : -9;
    }
}
