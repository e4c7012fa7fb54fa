import java.math.BigInteger;
import java.util.Random;

/**
 * What is answered in mind, against a twin on which the same is done by the
 * plain calls (stroke, say, reads, word): many objects, made by a fixed seed.
 */
public final class TwinTest {
    private static final Check check = new Check();
    private static final String KINDS = "ichfsn";

    public static void main(String[] args) {
        Random random = new Random(20261118);
        for (int i = 0; i < 150; i++) {
            String text = anyBack(random, KINDS.charAt(i % 6));
            behind(text, random);
            for (int reader = 0; reader < 6; reader++) {
                follow(text, reader);
                meanAndHardest(text, reader);
                speak(text, reader);
                evenings(text, reader, random);
            }
            strips(text);
            row(text, random);
            nothingMoves(text);
        }
        for (int i = 0; i < 36; i++) {
            fewest(anyBack(random, i % 2 == 0 ? 's' : KINDS.charAt(i / 2 % 6)));
        }
        for (int i = 0; i < 300; i++) {
            sayings(random);
        }
        anyCallsEnd(random);
        check.end();
    }

    private static String anyBack(Random random, char kind) {
        StringBuilder text = new StringBuilder();
        text.append('h').append(random.nextInt(2)).append(1 + random.nextInt(3)).append(2 + random.nextInt(4)).append(';');
        text.append('m').append(random.nextInt(6)).append(';');
        for (int i = random.nextInt(6); i > 0; i--) {
            text.append('o').append(Check.two(random.nextInt(24))).append(random.nextInt(10)).append(';');
        }
        for (int i = random.nextInt(6); i > 0; i--) {
            text.append('s').append(Check.two(random.nextInt(24))).append(';');
        }
        return text.append('i').append(kind).append(Check.two(random.nextInt(24))).append(';').toString();
    }

    private static void behind(String text, Random random) {
        int cell = random.nextInt(24);
        HigherMoreLeft twin = Check.told(text);
        for (int n = 0; n <= 20; n++) {
            check.due(text + " behind(" + cell + ", " + n + ")", Check.told(text).behind(cell, n), twin.itch(1));
            twin.stroke(cell);
        }
    }

    /** 41, if it is not GONE by 40 strokes. */
    private static int followed(HigherMoreLeft x, int reader) {
        for (int strokes = 0; strokes <= 40; strokes++) {
            if (x.say() == 9) {
                return strokes;
            }
            x.stroke(x.reads(reader, x.say(), strokes));
        }
        return 41;
    }

    private static void follow(String text, int reader) {
        int strokes = followed(Check.told(text), reader);
        check.due(text + " follow(" + reader + ")", Check.told(text).follow(reader), strokes > 40 ? -9 : strokes);
    }

    private static void meanAndHardest(String text, int reader) {
        char kind = KINDS.charAt(Check.told(text).itch(0));
        int sum = 0;
        int most = -1;
        int hardest = -1;
        for (int cell = 0; cell < 24; cell++) {
            int strokes = Math.min(40, followed(Check.told(text + "i" + kind + Check.two(cell) + ";"), reader));
            sum += strokes;
            if (strokes > most) {
                most = strokes;
                hardest = cell;
            }
        }
        int divisor = BigInteger.valueOf(sum).gcd(BigInteger.valueOf(24)).intValue();
        HigherMoreLeft x = Check.told(text);
        check.due(text + " mean(" + reader + ", 0)", x.mean(reader, 0), sum / divisor);
        check.due(text + " mean(" + reader + ", 1)", x.mean(reader, 1), 24 / divisor);
        check.due(text + " hardest(" + reader + ")", x.hardest(reader), hardest);
    }

    private static void speak(String text, int reader) {
        int least = 99;
        int best = -1;
        for (int bit = 1; bit <= 3; bit++) {
            for (int lot = 2; lot <= 5; lot++) {
                HigherMoreLeft twin = Check.told(text);
                twin.he(1, bit);
                twin.he(2, lot);
                int strokes = followed(twin, reader);
                if (strokes < least) {
                    least = strokes;
                    best = 10 * bit + lot;
                }
            }
        }
        HigherMoreLeft x = Check.told(text);
        check.due(text + " speak(" + reader + ", 0)", x.speak(reader, 0), best);
        check.due(text + " speak(" + reader + ", 1)", x.speak(reader, 1), least);
    }

    /** The text strokes CELL 0 last, so that HAND is there as in EVENINGS. */
    private static void evenings(String text, int reader, Random random) {
        String ahead = text + "s00;";
        char kind = KINDS.charAt(Check.told(text).itch(0));
        int n = 1 + random.nextInt(20);
        int seed = random.nextInt();
        int z = seed;
        int sum = 0;
        for (int i = 0; i < n; i++) {
            z = z * 1664525 + 1013904223;
            int cell = (z & 0x7fffffff) / 256 % 24;
            sum += Math.min(40, followed(Check.told(ahead + "i" + kind + Check.two(cell) + ";"), reader));
        }
        HigherMoreLeft x = Check.told(ahead);
        check.due(ahead + " evenings(" + reader + ", " + n + ", " + seed + ")", x.evenings(reader, n, seed), sum);
    }

    private static void strips(String text) {
        int best = -9;
        int fewest = 99;
        HigherMoreLeft x = Check.told(text);
        for (int s = 0; s < 10; s++) {
            HigherMoreLeft twin = Check.told(text);
            int want = -9;
            int strokes = 0;
            for (int cell = 0; cell < 24 && want < 0; cell++) {
                if (s < 4 ? cell / 6 == s : cell % 6 == s - 4) {
                    strokes++;
                    want = twin.stroke(cell) == 24 ? strokes : -9;
                }
            }
            check.due(text + " strip(" + s + ")", x.strip(s), want);
            if (want > 0 && want < fewest) {
                fewest = want;
                best = s;
            }
        }
        check.due(text + " bestStrip()", x.bestStrip(), best);
    }

    private static void row(String text, Random random) {
        HigherMoreLeft x = Check.told(text);
        HigherMoreLeft twin = Check.told(text);
        int many = random.nextInt(21);
        int bad = random.nextInt(25);
        for (int i = 0; i < many; i++) {
            int place = twin.stroke(twin.count(1));
            x.row(i == bad ? (place + 1) % 25 : place);
        }
        int bits = 0;
        for (int kind = 0; kind < 6; kind++) {
            HigherMoreLeft other = Check.told(text + "i" + KINDS.charAt(kind) + Check.two(x.itch(1)) + ";");
            HigherMoreLeft same = Check.told(text);
            boolean so = true;
            for (int i = 0; i < many; i++) {
                int place = same.stroke(same.count(1));
                so &= other.stroke(other.count(1)) == (i == bad ? (place + 1) % 25 : place);
            }
            bits |= so ? 1 << kind : 0;
        }
        check.due(text + " kinds()", x.kinds(), bits);
        check.due(text + " judge()", x.judge(), bad < many ? bad : -9);
    }

    private static void fewest(String text) {
        int[] path = new int[3];
        HigherMoreLeft x = Check.told(text);
        for (int n = 1; n <= 3; n++) {
            int paths = n == 1 ? 24 : n == 2 ? 576 : 13824;
            for (int i = 0; i < paths; i++) {
                HigherMoreLeft twin = Check.told(text);
                int rest = i;
                for (int j = n - 1; j >= 0; j--) {
                    path[j] = rest % 24;
                    rest /= 24;
                }
                for (int j = 0; j < n; j++) {
                    twin.stroke(path[j]);
                }
                if (twin.itch(1) == 24) {
                    check.due(text + " fewest(0)", x.fewest(0), n);
                    check.due(text + " fewest(1)", x.fewest(1), path[0]);
                    return;
                }
            }
        }
        check.due(text + " fewest(0)", x.fewest(0), -9);
        check.due(text + " fewest(1)", x.fewest(1), -9);
    }

    private static int trueAt(HigherMoreLeft x, int[] cells, int[] words, int cell) {
        int many = 0;
        for (int i = 0; i < cells.length; i++) {
            many += x.word(cells[i], cell) == words[i] ? 1 : 0;
        }
        return many;
    }

    private static int may(HigherMoreLeft x, int[] cells, int[] words) {
        int bits = 0;
        for (int cell = 0; cell < 24; cell++) {
            bits |= trueAt(x, cells, words, cell) == cells.length ? 1 << cell : 0;
        }
        return bits;
    }

    private static HigherMoreLeft withHe(int left, int lot) {
        return Check.told("h" + left + "1" + lot + ";");
    }

    private static void sayings(Random random) {
        int many = random.nextInt(9);
        int[] cells = new int[many];
        int[] words = new int[many];
        int itch = random.nextInt(24);
        int left = random.nextInt(2);
        int lot = 2 + random.nextInt(4);
        HigherMoreLeft x = Check.told("h" + left + "1" + lot + ";ih" + Check.two(itch) + ";");
        HigherMoreLeft told = withHe(random.nextInt(2), 2 + random.nextInt(4));
        for (int i = 0; i < many; i++) {
            cells[i] = random.nextInt(24);
            words[i] = random.nextInt(6) == 0 ? random.nextInt(9) : told.word(cells[i], itch);
            x.saying(cells[i], words[i]);
        }
        int any = 0;
        int lots = 0;
        int most = -1;
        int taught = -1;
        for (int l = 0; l < 2; l++) {
            for (int t = 2; t <= 5; t++) {
                int may = may(withHe(l, t), cells, words);
                any |= may;
                lots += may != 0 ? 1 : 0;
                int right = trueAt(withHe(l, t), cells, words, itch);
                if (right > most) {
                    most = right;
                    taught = 10 * l + t;
                }
            }
        }
        int may = may(withHe(left, lot), cells, words);
        check.due("may(0)", x.may(0), may);
        check.due("may(1)", x.may(1), any);
        check.due("heMany()", x.heMany(), lots);
        check.due("taught()", x.taught(), taught);
        next(x, withHe(left, lot), may);
        for (int cell = 0; cell < 24; cell++) {
            odds(x, withHe(left, lot), cells, words, cell);
        }
    }

    private static void next(HigherMoreLeft x, HigherMoreLeft twin, int may) {
        int best = -9;
        int fewest = 99;
        for (int from = 0; from < 24; from++) {
            int worst = 0;
            for (int word = 0; word < 9; word++) {
                int left = 0;
                for (int cell = 0; cell < 24; cell++) {
                    left += (may >> cell & 1) == 1 && twin.word(from, cell) == word ? 1 : 0;
                }
                worst = Math.max(worst, left);
            }
            twin = withHe(twin.count(3), twin.count(5));
            if (worst < fewest) {
                fewest = worst;
                best = from;
            }
        }
        check.due("next(0)", x.next(0), may == 0 ? -9 : best);
        check.due("next(1)", x.next(1), may == 0 ? -9 : fewest);
    }

    private static void odds(HigherMoreLeft x, HigherMoreLeft twin, int[] cells, int[] words, int cell) {
        BigInteger above = BigInteger.ONE;
        BigInteger below = BigInteger.ZERO;
        for (int other = 0; other < 24; other++) {
            BigInteger weight = BigInteger.valueOf(72).pow(trueAt(twin, cells, words, other));
            below = below.add(weight);
            above = other == cell ? weight : above;
        }
        BigInteger divisor = above.gcd(below);
        check.due("odds(" + cell + ", 0)", x.odds(cell, 0), above.divide(divisor).longValueExact());
        check.due("odds(" + cell + ", 1)", x.odds(cell, 1), below.divide(divisor).longValueExact());
    }

    /** No call that answers in mind moves anything. */
    private static void nothingMoves(String text) {
        HigherMoreLeft x = Check.told(text);
        x.row(3);
        for (int kind = 0; kind < 6; kind++) {
            x.reads(kind, 0, 0);
            x.follow(kind);
            x.mean(kind, 0);
            x.hardest(kind);
            x.speak(kind, 0);
            x.evenings(kind, 3, 9);
        }
        x.say();
        x.word(3, 4);
        x.behind(4, 20);
        x.may(0);
        x.may(1);
        x.heMany();
        x.odds(4, 0);
        x.next(0);
        x.strip(4);
        x.bestStrip();
        x.fewest(0);
        x.bears(4, 5);
        x.grid(2, 3, 4, 1);
        x.taught();
        x.kinds();
        x.image();
        HigherMoreLeft twin = Check.told(text);
        twin.row(3);
        same(text, x, twin);
        check.due("judge()", x.judge(), twin.judge());
        x.on();
        same(text, x, twin);
    }

    private static void same(String text, HigherMoreLeft x, HigherMoreLeft twin) {
        for (int what = 0; what < 18; what++) {
            check.due(text + " count(" + what + ")", x.count(what), twin.count(what));
        }
        check.due(text + " itch(0)", x.itch(0), twin.itch(0));
        check.due(text + " itch(1)", x.itch(1), twin.itch(1));
        for (int cell = 0; cell < 24; cell++) {
            check.due(text + " sore(" + cell + ")", x.sore(cell), twin.sore(cell));
        }
    }

    /** Calls with any arguments in any state: none throws, and each state stays within its bounds. */
    private static void anyCallsEnd(Random random) {
        for (int object = 0; object < 300; object++) {
            HigherMoreLeft x = new HigherMoreLeft();
            // An object is used for at most 512 calls: a BACK takes up to 59 of them, the look at the bounds 35.
            for (int calls = 0; calls < 512 - 59 - 35; calls++) {
                if (random.nextInt(37) == 0) {
                    String text = anyBack(random, KINDS.charAt(random.nextInt(6)));
                    Check.tell(x, text);
                    calls += text.length();
                } else {
                    anyCall(x, random);
                }
            }
            bounded("TIME", x.count(0), 0, 999);
            bounded("HAND", x.count(1), 0, 23);
            bounded("LEFT", x.count(3), 0, 1);
            bounded("BIT", x.count(4), 1, 3);
            bounded("LOT", x.count(5), 2, 5);
            bounded("SEAM", x.count(6), 0, 5);
            bounded("SAYINGS", x.count(7), 0, 8);
            bounded("ROW", x.count(8), 0, 20);
            bounded("letters", x.count(9), 0, 80);
            bounded("KIND", x.itch(0), 0, 5);
            bounded("CELL", x.itch(1), 0, 24);
            for (int cell = 0; cell < 24; cell++) {
                bounded("SORE", x.sore(cell), 0, 9);
            }
        }
    }

    private static void bounded(String name, int v, int least, int most) {
        check.due(name + " " + v + " is within", v >= least && v <= most ? 1 : 0, 1);
    }

    private static int any(Random random) {
        switch (random.nextInt(8)) {
            case 0:
                return random.nextInt();
            case 1:
                return random.nextBoolean() ? Integer.MIN_VALUE : Integer.MAX_VALUE;
            case 2:
                return random.nextInt(30) - 3;
            default:
                return random.nextInt(6);
        }
    }

    private static long anyCall(HigherMoreLeft x, Random random) {
        int a = any(random);
        int b = any(random);
        int c = any(random);
        switch (random.nextInt(36)) {
            case 0: return x.letter(a);
            case 1: return x.back();
            case 2: return x.itch(a);
            case 3: return x.sore(a);
            case 4: return x.heal(a);
            case 5: return x.he(a, b);
            case 6: return x.stroke(a);
            case 7: return x.far(a, b);
            case 8: return x.say();
            case 9: return x.word(a, b);
            case 10: return x.behind(a, b);
            case 11: return x.reads(a, b, c);
            case 12: return x.follow(a);
            case 13: return x.mean(a, b);
            case 14: return x.hardest(a);
            case 15: return x.speak(a, b);
            case 16: return x.saying(a, b);
            case 17: return random.nextInt(4) == 0 ? x.hush() : x.count(7);
            case 18: return x.may(a);
            case 19: return x.heMany();
            case 20: return x.odds(a, b);
            case 21: return x.next(a);
            case 22: return x.strip(a);
            case 23: return x.bestStrip();
            case 24: return x.fewest(a);
            case 25: return x.bears(a, b);
            case 26: return x.grid(a, b, c, any(random));
            case 27: return x.taught();
            case 28: return x.row(a);
            case 29: return x.kinds();
            case 30: return random.nextInt(4) == 0 ? x.judge() : x.count(8);
            case 31: return x.evenings(a, b, c);
            case 32: return x.image();
            case 33: return x.on();
            case 34: return x.count(a);
            default: return x.letter("ichfsnmo0123456789;".charAt(random.nextInt(19)));
        }
    }
}
