/**
 * Higher, and more to the left: a back of 24 cells, an itch in one of them, one
 * who says words of it and one who strokes by his words.
 *
 * All rows and backs are made in the constructor and used again, so that no
 * call makes an object.
 */
public final class HigherMoreLeft {
    private static final int CELLS = 24;
    private static final int ROWS = 4;
    private static final int COLUMNS = 6;
    private static final int GONE = 24;

    private static final int ITCH_KINDS = 6;
    private static final int ITCH = 0;
    private static final int HAIR = 2;
    private static final int FLEA = 3;
    private static final int SEAMS = 4;
    private static final int NOTHING = 5;

    private static final int READERS = 6;
    private static final int SLOW = 1;
    private static final int BOLD = 2;
    private static final int HERS = 3;
    private static final int DOUBTING = 4;
    private static final int BLIND = 5;

    private static final int WAYS = 4;
    private static final int UP = 0;
    private static final int DOWN = 1;
    private static final int LEFT = 2;
    private static final int RIGHT = 3;
    private static final int THERE = 8;
    private static final int WORD_GONE = 9;
    private static final int TOLD_WORDS = 9;

    private static final int MOST_TIME = 999;
    private static final int MOST_SORE = 9;
    private static final int MOST_LEFT = 1;
    private static final int LEAST_BIT = 1;
    private static final int MOST_BIT = 3;
    private static final int LEAST_LOT = 2;
    private static final int MOST_LOT = 5;
    private static final int MOST_SEAM = 5;
    /** Of LEFT, BIT, LOT and the SEAM, as he(what, v) tells them. */
    private static final int[] HE_LEAST = {0, 1, 2, 0};
    private static final int[] HE_MOST = {1, 3, 5, 5};
    private static final int MOST_LETTER = 255;
    private static final int MOST_LETTERS = 80;
    private static final int MOST_SAYINGS = 8;
    private static final int MOST_IN_ROW = 20;
    private static final int MOST_BEHIND = 20;
    private static final int MOST_EVENINGS = 20;
    private static final int MOST_FOLLOWED = 40;
    private static final int NOT_FOLLOWED = 41;
    private static final int MOST_FEWEST = 3;
    private static final int STRIPS = 10;
    /** 9 in 10 for the WORD against 1 in 80 for each other. */
    private static final long TRUE_AGAINST_FALSE = 72L;
    /** All bits of an int but its sign's. */
    private static final int WITHOUT_SIGN = 0x7fffffff;

    private static final int NOBODY = -1;
    private static final int OTHER = -2;
    private static final int STATE = -3;
    private static final int BELOW = -4;
    private static final int ROOM = -6;
    private static final int NONE = -9;
    private static final int REFUSALS = 6;
    private static final long LONG_REFUSAL = 4000000000000000000L;

    private final Back now = new Back();
    private final Back kept = new Back();
    private final Back mind = new Back();
    private final Back further = new Back();
    private final Text text = new Text();
    private final Sayings sayings = new Sayings();
    private final int[] told = new int[MOST_IN_ROW];
    private final int[] groups = new int[TOLD_WORDS];
    private final int[] refused = new int[REFUSALS + 1];
    private int toldMany = 0;
    private boolean hasKept = false;

    public HigherMoreLeft() {
    }

    public int letter(int c) {
        if (c < 0) {
            return refuse(BELOW);
        }
        if (c > MOST_LETTER || text.many >= MOST_LETTERS) {
            return refuse(ROOM);
        }
        return text.add(c);
    }

    public int back() {
        mind.take(now);
        int answer = text.tellTo(mind);
        text.many = 0;
        if (answer > 0) {
            now.take(mind);
        }
        return answer;
    }

    public int itch(int what) {
        if (isNot(what, 2)) {
            return refuse(OTHER);
        }
        return what == 0 ? now.kind : now.place;
    }

    public int sore(int cell) {
        return isNoCell(cell) ? refuse(NOBODY) : now.soreAt(cell);
    }

    public int heal(int cell) {
        if (isNoCell(cell)) {
            return refuse(NOBODY);
        }
        int was = now.soreAt(cell);
        now.setSore(cell, 0);
        return was;
    }

    public int he(int what, int v) {
        if (isNot(what, HE_LEAST.length) || isNot(what, HE_MOST.length)) {
            return refuse(OTHER);
        }
        if (v < HE_LEAST[what]) {
            return refuse(BELOW);
        }
        if (v > HE_MOST[what]) {
            return refuse(ROOM);
        }
        return now.changeHe(what, v);
    }

    public int stroke(int cell) {
        if (isNoCell(cell)) {
            return refuse(NOBODY);
        }
        if (now.time >= MOST_TIME) {
            return refuse(ROOM);
        }
        now.strokeOn(cell);
        return now.place;
    }

    public int far(int one, int other) {
        if (isNoCell(one) || isNoCell(other)) {
            return refuse(NOBODY);
        }
        return farApart(one, other);
    }

    public int say() {
        return now.wordNow();
    }

    public int word(int cell, int itch) {
        if (isNoCell(cell) || isNoCell(itch)) {
            return refuse(NOBODY);
        }
        return wordSaid(cell, itch, now.left, now.lot);
    }

    public int behind(int cell, int n) {
        if (isNoCell(cell)) {
            return refuse(NOBODY);
        }
        if (n < 0) {
            return refuse(BELOW);
        }
        if (n > MOST_BEHIND) {
            return refuse(ROOM);
        }
        mind.take(now);
        for (int i = 0; i < n; i++) {
            mind.strokeOn(cell);
        }
        return mind.place;
    }

    public int reads(int kind, int word, int n) {
        if (isNot(kind, READERS) || isNot(word, TOLD_WORDS)) {
            return refuse(OTHER);
        }
        if (n < 0) {
            return refuse(BELOW);
        }
        return now.readBy(kind, word, n);
    }

    public int follow(int kind) {
        if (isNot(kind, READERS)) {
            return refuse(OTHER);
        }
        mind.take(now);
        int strokes = mind.followBy(kind);
        return strokes > MOST_FOLLOWED ? NONE : strokes;
    }

    public long mean(int kind, int part) {
        if (isNot(kind, READERS) || isNot(part, 2)) {
            return refuseLong(OTHER);
        }
        long sum = 0;
        for (int cell = 0; cell < CELLS; cell++) {
            mind.take(now);
            mind.place = cell;
            sum += Math.min(MOST_FOLLOWED, mind.followBy(kind));
        }
        return partOfFraction(sum, CELLS, part);
    }

    public int hardest(int kind) {
        if (isNot(kind, READERS)) {
            return refuse(OTHER);
        }
        int hardest = 0;
        int most = -1;
        for (int cell = 0; cell < CELLS; cell++) {
            mind.take(now);
            mind.place = cell;
            int strokes = Math.min(MOST_FOLLOWED, mind.followBy(kind));
            if (strokes > most) {
                most = strokes;
                hardest = cell;
            }
        }
        return hardest;
    }

    public int speak(int kind, int what) {
        if (isNot(kind, READERS) || isNot(what, 2)) {
            return refuse(OTHER);
        }
        int best = 0;
        int fewest = NOT_FOLLOWED + 1;
        for (int bit = LEAST_BIT; bit <= MOST_BIT; bit++) {
            for (int lot = LEAST_LOT; lot <= MOST_LOT; lot++) {
                mind.take(now);
                mind.bit = bit;
                mind.lot = lot;
                int strokes = mind.followBy(kind);
                if (strokes < fewest) {
                    fewest = strokes;
                    best = 10 * bit + lot;
                }
            }
        }
        return what == 0 ? best : fewest;
    }

    public int saying(int cell, int word) {
        if (isNoCell(cell)) {
            return refuse(NOBODY);
        }
        if (isNot(word, TOLD_WORDS)) {
            return refuse(OTHER);
        }
        if (sayings.many >= MOST_SAYINGS) {
            return refuse(ROOM);
        }
        return sayings.add(cell, word);
    }

    public int hush() {
        int were = sayings.many;
        sayings.many = 0;
        return were;
    }

    public int may(int any) {
        if (isNot(any, 2)) {
            return refuse(OTHER);
        }
        if (any == 0) {
            return sayings.cellsBy(now.left, now.lot);
        }
        int cells = 0;
        for (int left = 0; left <= MOST_LEFT; left++) {
            for (int lot = LEAST_LOT; lot <= MOST_LOT; lot++) {
                cells |= sayings.cellsBy(left, lot);
            }
        }
        return cells;
    }

    public int heMany() {
        int many = 0;
        for (int left = 0; left <= MOST_LEFT; left++) {
            for (int lot = LEAST_LOT; lot <= MOST_LOT; lot++) {
                if (sayings.cellsBy(left, lot) != 0) {
                    many++;
                }
            }
        }
        return many;
    }

    public long odds(int cell, int part) {
        if (isNoCell(cell)) {
            return refuseLong(NOBODY);
        }
        if (isNot(part, 2)) {
            return refuseLong(OTHER);
        }
        long all = 0;
        for (int other = 0; other < CELLS; other++) {
            all += weightOf(other);
        }
        return partOfFraction(weightOf(cell), all, part);
    }

    public int next(int what) {
        if (isNot(what, 2)) {
            return refuse(OTHER);
        }
        int cells = sayings.cellsBy(now.left, now.lot);
        if (cells == 0) {
            return NONE;
        }
        int best = 0;
        int fewest = CELLS + 1;
        for (int from = 0; from < CELLS; from++) {
            int left = leftAtWorst(from, cells);
            if (left < fewest) {
                fewest = left;
                best = from;
            }
        }
        return what == 0 ? best : fewest;
    }

    public int strip(int s) {
        return isNot(s, STRIPS) ? refuse(NOBODY) : strokesOfStrip(s);
    }

    public int bestStrip() {
        int best = NONE;
        int fewest = CELLS;
        for (int s = 0; s < STRIPS; s++) {
            int strokes = strokesOfStrip(s);
            if (strokes != NONE && strokes < fewest) {
                fewest = strokes;
                best = s;
            }
        }
        return best;
    }

    public int fewest(int what) {
        if (isNot(what, 2)) {
            return refuse(OTHER);
        }
        if (now.place == GONE) {
            return what == 0 ? 0 : NONE;
        }
        for (int strokes = 1; strokes <= MOST_FEWEST; strokes++) {
            int first = firstOf(strokes);
            if (first != NONE) {
                return what == 0 ? strokes : first;
            }
        }
        return NONE;
    }

    public int bears(int one, int other) {
        if (isNoCell(one) || isNoCell(other) || one == other) {
            return refuse(NOBODY);
        }
        int more = now.soreAt(one) - now.soreAt(other);
        if (more == 0) {
            more = now.soreAround(one) - now.soreAround(other);
        }
        if (more == 0) {
            more = one - other;
        }
        return more < 0 ? one : other;
    }

    public int grid(int a, int b, int cell, int what) {
        if (a < 1 || b < 1) {
            return refuse(BELOW);
        }
        if (a > ROWS || b > COLUMNS) {
            return refuse(ROOM);
        }
        if (isNoCell(cell)) {
            return refuse(NOBODY);
        }
        if (isNot(what, 2)) {
            return refuse(OTHER);
        }
        int box = boxOf(a, b, cell);
        if (what == 0) {
            return box;
        }
        int many = 0;
        for (int other = 0; other < CELLS; other++) {
            if (boxOf(a, b, other) == box) {
                many++;
            }
        }
        return many;
    }

    public int taught() {
        if (now.place == GONE) {
            return refuse(STATE);
        }
        int best = 0;
        int most = -1;
        for (int left = 0; left <= MOST_LEFT; left++) {
            for (int lot = LEAST_LOT; lot <= MOST_LOT; lot++) {
                int many = sayings.trueAt(now.place, left, lot);
                if (many > most) {
                    most = many;
                    best = 10 * left + lot;
                }
            }
        }
        return best;
    }

    public int row(int v) {
        if (v < 0) {
            return refuse(BELOW);
        }
        if (v > GONE || isNot(toldMany, MOST_IN_ROW)) {
            return refuse(ROOM);
        }
        told[toldMany] = v;
        toldMany++;
        return toldMany;
    }

    public int kinds() {
        int bits = 0;
        for (int kind = 0; kind < ITCH_KINDS; kind++) {
            if (firstUntrue(kind) == NONE) {
                bits |= 1 << kind;
            }
        }
        return bits;
    }

    public int judge() {
        int first = firstUntrue(now.kind);
        toldMany = 0;
        return first;
    }

    public int evenings(int kind, int n, int z) {
        if (isNot(kind, READERS)) {
            return refuse(OTHER);
        }
        if (n < 1) {
            return refuse(BELOW);
        }
        if (n > MOST_EVENINGS) {
            return refuse(ROOM);
        }
        int seed = z;
        int strokes = 0;
        for (int i = 0; i < n; i++) {
            seed = seed * 1664525 + 1013904223;
            mind.take(now);
            mind.hand = 0;
            mind.place = (seed & WITHOUT_SIGN) / 256 % CELLS;
            strokes += Math.min(MOST_FOLLOWED, mind.followBy(kind));
        }
        return strokes;
    }

    public int image() {
        kept.take(now);
        hasKept = true;
        return now.time;
    }

    public int on() {
        if (!hasKept) {
            return refuse(STATE);
        }
        now.take(kept);
        return now.time;
    }

    public int count(int what) {
        switch (what) {
            case 0:
                return now.time;
            case 1:
                return now.hand;
            case 2:
                return now.soreOfAll();
            case 3:
                return now.left;
            case 4:
                return now.bit;
            case 5:
                return now.lot;
            case 6:
                return now.seam;
            case 7:
                return sayings.many;
            case 8:
                return toldMany;
            case 9:
                return text.many;
            default:
                return within(what, 11, 10 + REFUSALS) ? refused[what - 10] : NONE;
        }
    }

    private int refuse(int number) {
        int index = -number;
        if (index >= 1 && index <= REFUSALS) {
            refused[index]++;
        }
        return number;
    }

    private long refuseLong(int number) {
        return LONG_REFUSAL - refuse(number);
    }

    private long weightOf(int cell) {
        int many = sayings.trueAt(cell, now.left, now.lot);
        long weight = 1;
        for (int i = 0; i < many; i++) {
            weight *= TRUE_AGAINST_FALSE;
        }
        return weight;
    }

    private int leftAtWorst(int from, int cells) {
        for (int word = 0; word < TOLD_WORDS; word++) {
            groups[word] = 0;
        }
        int most = 0;
        for (int cell = 0; cell < CELLS; cell++) {
            int word = wordSaid(from, cell, now.left, now.lot);
            if ((cells >> cell & 1) == 1 && word >= 0 && word < TOLD_WORDS) {
                groups[word]++;
                most = Math.max(most, groups[word]);
            }
        }
        return most;
    }

    private int strokesOfStrip(int s) {
        boolean isRow = s < ROWS;
        int cell = isRow ? COLUMNS * s : s - ROWS;
        int length = isRow ? COLUMNS : ROWS;
        int apart = isRow ? 1 : COLUMNS;
        mind.take(now);
        for (int strokes = 0; strokes < length; strokes++) {
            if (mind.place == GONE) {
                return strokes;
            }
            mind.strokeOn(cell + apart * strokes);
        }
        return mind.place == GONE ? length : NONE;
    }

    private int firstOf(int strokes) {
        for (int cell = 0; cell < CELLS; cell++) {
            mind.take(now);
            mind.strokeOn(cell);
            if (canBeGone(strokes - 1)) {
                return cell;
            }
        }
        return NONE;
    }

    /**
     * The last of several strokes need only be tried on the ITCH's own CELL:
     * the one KIND that goes when stroked BESIDE has gone with the first.
     */
    private boolean canBeGone(int left) {
        if (left <= 0) {
            return mind.place == GONE;
        }
        if (left == 1) {
            mind.strokeOn(mind.place);
            return mind.place == GONE;
        }
        for (int cell = 0; cell < CELLS; cell++) {
            further.take(mind);
            further.strokeOn(cell);
            further.strokeOn(further.place);
            if (further.place == GONE) {
                return true;
            }
        }
        return false;
    }

    private int firstUntrue(int kind) {
        mind.take(now);
        mind.kind = kind;
        for (int i = 0; i < toldMany && i < MOST_IN_ROW; i++) {
            mind.strokeOn(mind.hand);
            if (mind.place != told[i]) {
                return i;
            }
        }
        return NONE;
    }

    private static boolean isNot(int what, int many) {
        return what < 0 || what >= many;
    }

    private static boolean isNoCell(int cell) {
        return cell < 0 || cell >= CELLS;
    }

    private static boolean within(int v, int least, int most) {
        return v >= least && v <= most;
    }

    private static int farApart(int one, int other) {
        return Math.abs(one / COLUMNS - other / COLUMNS) + Math.abs(one % COLUMNS - other % COLUMNS);
    }

    private static int boxOf(int a, int b, int cell) {
        return b * (cell / COLUMNS * a / ROWS) + cell % COLUMNS * b / COLUMNS;
    }

    private static int wordSaid(int from, int at, int left, int lot) {
        if (at == GONE) {
            return WORD_GONE;
        }
        int down = at / COLUMNS - from / COLUMNS;
        if (down != 0) {
            return (down < 0 ? UP : DOWN) + (Math.abs(down) >= lot ? WAYS : 0);
        }
        int right = at % COLUMNS - from % COLUMNS;
        if (right != 0) {
            boolean saysLeft = (right < 0) == (left == 0);
            return (saysLeft ? LEFT : RIGHT) + (Math.abs(right) >= lot ? WAYS : 0);
        }
        return THERE;
    }

    private static long partOfFraction(long above, long below, int part) {
        long divisor = commonDivisor(above, below);
        long whole = part == 0 ? above : below;
        return divisor == 0 ? whole : whole / divisor;
    }

    private static long commonDivisor(long one, long other) {
        long a = one;
        long b = other;
        // Euclid's steps on two longs stay under a hundred.
        for (int i = 0; i < 200 && b != 0; i++) {
            long rest = a % b;
            a = b;
            b = rest;
        }
        return a;
    }

    /** All that an IMAGE holds; strokes in mind are made on a second one. */
    private static final class Back {
        private final int[] sores = new int[CELLS];
        private int kind = ITCH;
        private int place = 0;
        private int hand = 0;
        private int time = 0;
        private int left = 0;
        private int bit = LEAST_BIT;
        private int lot = 3;
        private int seam = 0;

        private void take(Back other) {
            if (other == null) {
                return;
            }
            System.arraycopy(other.sores, 0, sores, 0, CELLS);
            kind = other.kind;
            place = other.place;
            hand = other.hand;
            time = other.time;
            left = other.left;
            bit = other.bit;
            lot = other.lot;
            seam = other.seam;
        }

        private int changeHe(int what, int v) {
            int was;
            switch (what) {
                case 0:
                    was = left;
                    left = v;
                    return was;
                case 1:
                    was = bit;
                    bit = v;
                    return was;
                case 2:
                    was = lot;
                    lot = v;
                    return was;
                default:
                    was = seam;
                    seam = v;
                    return was;
            }
        }

        private int soreAt(int cell) {
            return cell < 0 || cell >= CELLS ? 0 : sores[cell];
        }

        private void setSore(int cell, int v) {
            if (!isNoCell(cell)) {
                sores[cell] = v;
            }
        }

        private int soreOfAll() {
            int sum = 0;
            for (int cell = 0; cell < CELLS; cell++) {
                sum += sores[cell];
            }
            return sum;
        }

        private int soreAround(int cell) {
            int sum = 0;
            for (int other = 0; other < CELLS; other++) {
                if (farApart(cell, other) == 1) {
                    sum += sores[other];
                }
            }
            return sum;
        }

        /** In mind TIME may go beyond its most: nothing is said of an end there. */
        private void strokeOn(int cell) {
            if (isNoCell(cell)) {
                return;
            }
            sores[cell] = Math.min(MOST_SORE, sores[cell] + 1);
            hand = cell;
            if (place != GONE) {
                place = place == cell ? whenStruck() : whenBeside();
            }
            time++;
        }

        private int whenStruck() {
            switch (kind) {
                case FLEA:
                    return (place + 7) % CELLS;
                case SEAMS:
                    return soreAt(place) >= 3 ? GONE : place;
                default:
                    return GONE;
            }
        }

        /** A FLEA is under CREEPING and CREEPING under ITCH, so one way serves the three. */
        private int whenBeside() {
            if (kind == NOTHING) {
                return GONE;
            }
            if (kind == HAIR) {
                return place;
            }
            if (kind == SEAMS) {
                return place + Integer.compare(seam, place % COLUMNS);
            }
            boolean creeps = kind != ITCH && time % 3 == 0 && place / COLUMNS < ROWS - 1;
            int moved = creeps ? place + COLUMNS : awayFromHand();
            if (kind != FLEA || moved != place) {
                return moved;
            }
            int across = place / COLUMNS * COLUMNS + COLUMNS - 1 - place % COLUMNS;
            return soreAt(across) == 0 ? across : place;
        }

        private int awayFromHand() {
            if (place / COLUMNS != hand / COLUMNS) {
                return place;
            }
            int column = place % COLUMNS;
            if (place == hand + 1 && column < COLUMNS - 1) {
                return place + 1;
            }
            return place == hand - 1 && column > 0 ? place - 1 : place;
        }

        private int wordNow() {
            return wordSaid(hand, place, left, lot);
        }

        private int readBy(int reader, int word, int n) {
            if (reader == BLIND) {
                return Math.floorMod(n, CELLS);
            }
            if (word < 0 || word >= THERE) {
                return hand;
            }
            int steps = stepsOf(reader, word >= WAYS);
            int way = word % WAYS;
            int row = hand / COLUMNS;
            int column = hand % COLUMNS;
            if (way == UP || way == DOWN) {
                row += way == UP ? -steps : steps;
            } else {
                column += (way == LEFT) == (reader != HERS) ? -steps : steps;
            }
            return COLUMNS * clamp(row, ROWS - 1) + clamp(column, COLUMNS - 1);
        }

        private int stepsOf(int reader, boolean isLot) {
            int bidden = isLot ? lot : bit;
            switch (reader) {
                case SLOW:
                    return 1;
                case BOLD:
                    return 2 * bidden;
                case DOUBTING:
                    return isLot ? bidden : 1;
                default:
                    return bidden;
            }
        }

        private static int clamp(int v, int most) {
            return Math.max(0, Math.min(most, v));
        }

        private int followBy(int reader) {
            for (int strokes = 0; strokes < MOST_FOLLOWED; strokes++) {
                if (place == GONE) {
                    return strokes;
                }
                strokeOn(readBy(reader, wordNow(), strokes));
            }
            return place == GONE ? MOST_FOLLOWED : NOT_FOLLOWED;
        }
    }

    /** The letters that came, and how they are read as a BACK. */
    private static final class Text {
        private static final int LETTER_FAULT = -1000;
        private static final int STATEMENT_FAULT = -2000;
        private static final String ITCH_LETTERS = "ichfsn";

        private final int[] letters = new int[MOST_LETTERS];
        private int many = 0;

        private int add(int c) {
            if (many >= 0 && many < MOST_LETTERS) {
                letters[many] = c;
                many++;
            }
            return many;
        }

        /** How many STATEMENTS were told to a back in mind, or the FAULT. */
        private int tellTo(Back back) {
            int wrong = firstWrong();
            if (wrong >= 0) {
                return LETTER_FAULT - wrong;
            }
            int statements = 0;
            int start = 0;
            for (int i = 0; i < MOST_LETTERS && start < many; i++) {
                if (back == null || !tellOne(back, start)) {
                    return STATEMENT_FAULT - start;
                }
                start += 1 + shapeOf(letterAt(start)).length();
                statements++;
            }
            return statements;
        }

        /** -1 if the letters have the form of a BACK. */
        private int firstWrong() {
            if (many == 0) {
                return 0;
            }
            int at = 0;
            for (int i = 0; i < MOST_LETTERS && at < many; i++) {
                String shape = shapeOf(letterAt(at));
                if (shape.isEmpty()) {
                    return at;
                }
                for (int j = 0; j < shape.length(); j++) {
                    at++;
                    if (!fits(shape.charAt(j), letterAt(at))) {
                        return at;
                    }
                }
                at++;
            }
            return -1;
        }

        /** What must come behind a STATEMENT's first letter: k a KIND, d a digit. */
        private static String shapeOf(int first) {
            switch (first) {
                case 'i':
                    return "kdd;";
                case 'h':
                case 'o':
                    return "ddd;";
                case 'm':
                    return "d;";
                case 's':
                    return "dd;";
                default:
                    return "";
            }
        }

        private static boolean fits(int wanted, int c) {
            switch (wanted) {
                case 'k':
                    return c >= 0 && ITCH_LETTERS.indexOf((char) c) >= 0;
                case 'd':
                    return c >= '0' && c <= '9';
                default:
                    return c == wanted;
            }
        }

        /** -1 behind the end, which fits no shape. */
        private int letterAt(int at) {
            return at >= 0 && at < many && at < MOST_LETTERS ? letters[at] : -1;
        }

        private int digitAt(int at) {
            return letterAt(at) - '0';
        }

        private int cellAt(int at) {
            return 10 * digitAt(at) + digitAt(at + 1);
        }

        private boolean tellOne(Back back, int start) {
            switch (letterAt(start)) {
                case 'i':
                    return tellItch(back, ITCH_LETTERS.indexOf((char) letterAt(start + 1)), cellAt(start + 2));
                case 'h':
                    return tellHe(back, digitAt(start + 1), digitAt(start + 2), digitAt(start + 3));
                case 'm':
                    return tellSeam(back, digitAt(start + 1));
                case 's':
                    return tellStroke(back, cellAt(start + 1));
                default:
                    return tellSore(back, cellAt(start + 1), digitAt(start + 3));
            }
        }

        private static boolean tellItch(Back back, int kind, int cell) {
            if (isNot(kind, ITCH_KINDS) || isNoCell(cell)) {
                return false;
            }
            back.kind = kind;
            back.place = cell;
            return true;
        }

        private static boolean tellHe(Back back, int left, int bit, int lot) {
            boolean fit = within(left, 0, MOST_LEFT) && within(bit, LEAST_BIT, MOST_BIT)
                    && within(lot, LEAST_LOT, MOST_LOT);
            if (fit) {
                back.left = left;
                back.bit = bit;
                back.lot = lot;
            }
            return fit;
        }

        private static boolean tellSeam(Back back, int seam) {
            boolean fit = within(seam, 0, MOST_SEAM);
            if (fit) {
                back.seam = seam;
            }
            return fit;
        }

        private static boolean tellStroke(Back back, int cell) {
            if (isNoCell(cell) || back.time >= MOST_TIME) {
                return false;
            }
            back.strokeOn(cell);
            return true;
        }

        private static boolean tellSore(Back back, int cell, int v) {
            if (isNoCell(cell) || !within(v, 0, MOST_SORE)) {
                return false;
            }
            back.setSore(cell, v);
            return true;
        }
    }

    /** WORDS that were said of an ITCH that stays. */
    private static final class Sayings {
        private final int[] cells = new int[MOST_SAYINGS];
        private final int[] words = new int[MOST_SAYINGS];
        private int many = 0;

        private int add(int cell, int word) {
            if (many >= 0 && many < MOST_SAYINGS) {
                cells[many] = cell;
                words[many] = word;
                many++;
            }
            return many;
        }

        private int trueAt(int itch, int left, int lot) {
            int right = 0;
            for (int i = 0; i < many && i < MOST_SAYINGS; i++) {
                if (wordSaid(cells[i], itch, left, lot) == words[i]) {
                    right++;
                }
            }
            return right;
        }

        private int cellsBy(int left, int lot) {
            int bits = 0;
            for (int cell = 0; cell < CELLS; cell++) {
                if (trueAt(cell, left, lot) == many) {
                    bits |= 1 << cell;
                }
            }
            return bits;
        }
    }
}
