import java.lang.reflect.Constructor;
import java.lang.reflect.Field;
import java.lang.reflect.Method;
import java.lang.reflect.Modifier;
import java.util.ArrayList;
import java.util.Arrays;
import java.util.Comparator;
import java.util.List;
import java.util.Map;
import java.util.Random;

/**
 * The class against SecondReading, the document's words written down a second
 * time: every argument of every call from below the least to above the greatest
 * on some objects, and runs of any calls, by a fixed seed. No call throws in it.
 */
public final class SecondReadingTest {
    private static final Check check = new Check();
    private static final String[] FACE = {
        "back", "bears", "behind", "bestStrip", "count", "evenings", "far", "fewest", "follow", "grid", "hardest",
        "he", "heMany", "heal", "hush", "image", "itch", "judge", "kinds", "letter", "may", "mean", "next", "odds",
        "on", "reads", "row", "say", "saying", "sore", "speak", "strip", "stroke", "taught", "word"};
    private static final int[] CELL = {0, 23};
    private static final int[] KIND = {0, 5};
    private static final int[] PART = {0, 1};
    /** Of each argument of a call the least and the greatest that is taken; a call without a line has none. */
    private static final Map<String, int[][]> TAKEN = Map.ofEntries(
            Map.entry("letter", new int[][] {{0, 255}}),
            Map.entry("itch", new int[][] {PART}),
            Map.entry("sore", new int[][] {CELL}),
            Map.entry("heal", new int[][] {CELL}),
            Map.entry("he", new int[][] {{0, 3}, {0, 5}}),
            Map.entry("stroke", new int[][] {CELL}),
            Map.entry("far", new int[][] {CELL, CELL}),
            Map.entry("word", new int[][] {CELL, CELL}),
            Map.entry("behind", new int[][] {CELL, {0, 20}}),
            Map.entry("reads", new int[][] {KIND, {0, 8}, {0, 49}}),
            Map.entry("follow", new int[][] {KIND}),
            Map.entry("mean", new int[][] {KIND, PART}),
            Map.entry("hardest", new int[][] {KIND}),
            Map.entry("speak", new int[][] {KIND, PART}),
            Map.entry("saying", new int[][] {CELL, {0, 8}}),
            Map.entry("may", new int[][] {PART}),
            Map.entry("odds", new int[][] {CELL, PART}),
            Map.entry("next", new int[][] {PART}),
            Map.entry("strip", new int[][] {{0, 9}}),
            Map.entry("fewest", new int[][] {PART}),
            Map.entry("bears", new int[][] {CELL, CELL}),
            Map.entry("grid", new int[][] {{1, 4}, {1, 6}, CELL, PART}),
            Map.entry("row", new int[][] {{0, 24}}),
            Map.entry("evenings", new int[][] {KIND, {1, 20}, {-2, 2}}),
            Map.entry("count", new int[][] {{0, 17}}));

    /** An object and its second reading, on which the same is called. */
    private static final class Pair {
        private final HigherMoreLeft x = new HigherMoreLeft();
        private final SecondReading second = new SecondReading();
        private final StringBuilder run = new StringBuilder();
        private boolean differs = false;
        private int calls = 0;

        private long call(Method method, int... arguments) throws ReflectiveOperationException {
            run.append(' ').append(method.getName()).append(Arrays.toString(arguments));
            Object[] boxed = Arrays.stream(arguments).boxed().toArray();
            Method other = SecondReading.class.getDeclaredMethod(method.getName(), method.getParameterTypes());
            long got = ((Number) method.invoke(x, boxed)).longValue();
            long want = ((Number) other.invoke(second, boxed)).longValue();
            due(method.getName(), got, want);
            return got;
        }

        /** Each call of the object comes by here, so its calls are counted here. */
        private void due(String call, long got, long want) {
            calls++;
            differs |= got != want;
            check.due(got == want ? call : "behind" + run + ": " + call, got, want);
        }

        private void letter(int c) {
            due("letter", x.letter(c), second.letter(c));
        }

        private void tell(String text) {
            run.append(' ').append(text);
            for (char c : text.toCharArray()) {
                letter(c);
            }
            due("back", x.back(), second.back());
        }

        private void saying(int cell, int word) {
            run.append(" saying ").append(cell).append(' ').append(word);
            due("saying", x.saying(cell, word), second.saying(cell, word));
        }

        private void row(int v) {
            run.append(" row ").append(v);
            due("row", x.row(v), second.row(v));
        }

        private void sameState() {
            due("itch(0)", x.itch(0), second.itch(0));
            due("itch(1)", x.itch(1), second.itch(1));
            for (int what = 0; what <= 17; what++) {
                due("count", x.count(what), second.count(what));
            }
            for (int cell = 0; cell < 24; cell++) {
                due("sore", x.sore(cell), second.sore(cell));
            }
        }
    }

    public static void main(String[] args) throws ReflectiveOperationException {
        List<Method> face = new ArrayList<>(Arrays.asList(HigherMoreLeft.class.getDeclaredMethods()));
        face.removeIf(method -> Modifier.isPrivate(method.getModifiers()) || method.isSynthetic());
        face.sort(Comparator.comparing(Method::getName));
        theFace(face);
        for (Method method : face) {
            // No state is asked for by a GRID, so two will do for its many arguments.
            int states = method.getParameterCount() == 4 ? 2 : 6;
            for (int state = 0; state < states; state++) {
                everyArgument(state, method, new int[method.getParameterCount()], 0);
            }
        }
        Random random = new Random(36);
        for (int i = 0; i < 2000; i++) {
            anyRun(face, random);
        }
        check.end();
    }

    private static void theFace(List<Method> face) {
        check.due("how many calls", face.size(), FACE.length);
        for (int i = 0; i < FACE.length && i < face.size(); i++) {
            Method method = face.get(i);
            check.due(FACE[i] + " against " + method.getName(), method.getName().equals(FACE[i]) ? 1 : 0, 1);
            check.due(FACE[i] + " is public", Modifier.isPublic(method.getModifiers()) ? 1 : 0, 1);
            boolean isLong = FACE[i].equals("mean") || FACE[i].equals("odds");
            check.due(FACE[i] + "'s answer", method.getReturnType() == (isLong ? long.class : int.class) ? 1 : 0, 1);
            check.due(FACE[i] + "'s arguments", method.getParameterCount(), TAKEN.getOrDefault(FACE[i], new int[0][]).length);
        }
        Constructor<?>[] made = HigherMoreLeft.class.getConstructors();
        check.due("how many constructors", made.length, 1);
        check.due("its arguments", made.length == 1 ? made[0].getParameterCount() : -1, 0);
        check.due("any constructors", HigherMoreLeft.class.getDeclaredConstructors().length, 1);
        int ofTheClass = HigherMoreLeft.class.getModifiers();
        check.due("the class is public and final", Modifier.isPublic(ofTheClass) && Modifier.isFinal(ofTheClass) ? 1 : 0, 1);
        for (Field field : HigherMoreLeft.class.getDeclaredFields()) {
            check.due(field.getName() + " is private", Modifier.isPrivate(field.getModifiers()) ? 1 : 0, 1);
        }
        for (Class<?> inside : HigherMoreLeft.class.getDeclaredClasses()) {
            int of = inside.getModifiers();
            boolean fits = Modifier.isStatic(of) && !Modifier.isPublic(of) && !Modifier.isProtected(of);
            check.due(inside.getName() + " is static and not of the face", fits ? 1 : 0, 1);
        }
    }

    /** New, GONE with much of all, full of all, and each of the KINDS with most edges. */
    private static Pair pair(int state) throws ReflectiveOperationException {
        Pair pair = new Pair();
        if (state == 0) {
            return pair;
        }
        String[] texts = {
            "h135;m5;o239;o018;ih23;s23;", "h012;m0;is17;o172;s22;s22;", "h104;m3;if16;o190;o131;s05;",
            "h123;ic12;s13;o129;o009;s11;", "in05;h025;m2;s06;s23;s18;"};
        pair.tell(texts[state - 1]);
        int filled = state == 2 ? 8 : state;
        for (int i = 0; i < filled; i++) {
            int from = 5 * i % 24;
            pair.saying(from, i == 3 ? 8 : pair.second.word(from, 17));
        }
        for (int i = 0; i < (state == 2 ? 20 : state); i++) {
            pair.row(pair.second.behind(pair.second.count(1), i + 1));
        }
        if (state == 2) {
            pair.call(HigherMoreLeft.class.getMethod("image"));
        }
        for (int i = 0; i < (state == 2 ? 80 : state); i++) {
            pair.letter("m4;s".charAt(i % 4));
        }
        return pair;
    }

    private static void everyArgument(int state, Method method, int[] arguments, int at)
            throws ReflectiveOperationException {
        if (at == arguments.length) {
            Pair pair = pair(state);
            pair.call(method, arguments);
            pair.sameState();
            return;
        }
        int[] taken = TAKEN.get(method.getName())[at];
        for (int v = taken[0] - 2; v <= taken[1] + 2; v++) {
            arguments[at] = v;
            everyArgument(state, method, arguments, at + 1);
        }
        for (int v : new int[] {Integer.MIN_VALUE, Integer.MAX_VALUE}) {
            arguments[at] = v;
            everyArgument(state, method, arguments, at + 1);
        }
    }

    /** An object is used for at most 512 calls: sameState takes 44 of them, and a told BACK up to 31. */
    private static void anyRun(List<Method> face, Random random) throws ReflectiveOperationException {
        Pair pair = new Pair();
        int itch = random.nextInt(24);
        int most = 1 + random.nextInt(512 - 44 - 31);
        while (pair.calls < most && !pair.differs) {
            anyStep(pair, itch, face, random);
        }
        pair.sameState();
        check.due("calls of a run within 512", pair.calls <= 512 ? 1 : 0, 1);
    }

    private static void anyStep(Pair pair, int itch, List<Method> face, Random random)
            throws ReflectiveOperationException {
        SecondReading second = pair.second;
        switch (random.nextInt(20)) {
            case 0:
                pair.tell(anyText(random));
                break;
            case 1:
            case 2:
                int from = random.nextInt(24);
                pair.saying(from, second.word(from, itch));
                break;
            case 3:
            case 4:
                pair.row(second.behind(second.count(1), Math.min(20, second.count(8) + 1)));
                break;
            case 5:
                pair.call(HigherMoreLeft.class.getMethod("stroke", int.class), Math.min(23, second.itch(1)));
                break;
            default:
                Method method = face.get(random.nextInt(face.size()));
                pair.call(method, anyArguments(method, random));
                break;
        }
    }

    private static int[] anyArguments(Method method, Random random) {
        int[] arguments = new int[method.getParameterCount()];
        for (int i = 0; i < arguments.length; i++) {
            int[] taken = TAKEN.get(method.getName())[i];
            switch (random.nextInt(12)) {
                case 0:
                    int[] outside = {taken[0] - 1, taken[1] + 1, Integer.MIN_VALUE, Integer.MAX_VALUE, random.nextInt()};
                    arguments[i] = outside[random.nextInt(outside.length)];
                    break;
                case 1:
                    arguments[i] = taken[random.nextInt(2)];
                    break;
                default:
                    arguments[i] = taken[0] + random.nextInt(taken[1] - taken[0] + 1);
                    break;
            }
        }
        return arguments;
    }

    /** A BACK most often, at times with a letter or a number that is not as it must be. */
    private static String anyText(Random random) {
        StringBuilder text = new StringBuilder();
        for (int i = 1 + random.nextInt(6); i > 0; i--) {
            String cell = String.format("%02d", random.nextInt(random.nextInt(12) == 0 ? 30 : 24));
            switch (random.nextInt(6)) {
                case 0:
                    text.append('h').append(random.nextInt(2)).append(1 + random.nextInt(3)).append(2 + random.nextInt(4));
                    break;
                case 1:
                    text.append('m').append(random.nextInt(6));
                    break;
                case 2:
                    text.append('s').append(cell);
                    break;
                case 3:
                    text.append('o').append(cell).append(random.nextInt(10));
                    break;
                default:
                    text.append('i').append("ichfsn".charAt(random.nextInt(6))).append(cell);
                    break;
            }
            text.append(';');
        }
        if (random.nextInt(6) == 0) {
            text.setCharAt(random.nextInt(text.length()), (char) random.nextInt(256));
        }
        if (random.nextInt(6) == 0) {
            text.setLength(random.nextInt(text.length()));
        }
        return text.toString();
    }
}
