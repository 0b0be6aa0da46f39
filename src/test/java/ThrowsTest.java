import java.lang.reflect.Method;
import java.util.ArrayList;
import java.util.Arrays;
import java.util.HashMap;
import java.util.List;
import java.util.Map;
import java.util.TreeSet;

/**
 * Every "Throws .." sentence of the document, at every edge, in every state that has some: each method with all numbers
 * that are an edge of something must throw what is documented first of what applies, change nothing then, and throw
 * nothing where nothing applies.
 */
public final class ThrowsTest {
    private static final String BOUNDS = "IndexOutOfBoundsException";
    private static final String NONE = "NoSuchElementException";
    private static final String STATE = "IllegalStateException";
    private static final String ARGUMENT = "IllegalArgumentException";
    private static final String UNSUPPORTED = "UnsupportedOperationException";
    private static final String ARITHMETIC = "ArithmeticException";
    private static final String NOTHING = "nothing";
    private static final int MIN = Integer.MIN_VALUE;
    private static final int MAX = Integer.MAX_VALUE;
    private static final int[] HANDS = {MIN, -1, 0, 2, 4, 5, MAX};

    private static final String FULL_TEXT = "type 12charsalong; put 0 0; type 12charsalong; put 0 0; type 12charsalong; put 0 0;"
        + "type 12charsalong; put 0 0; type 12charsalong; put 0 0; meetAll;";
    private static final String[][] STATES = {
        {"a new object", ""},
        {"a sign is typed", "type a"},
        {"12 signs are typed", "type abcdefghijkl"},
        {"one letter, seen by all", "type a; put 0 0; meetAll; type b"},
        {"one letter, nothing typed", "type a; put 0 0; meetAll"},
        {"a text that is empty again", "type abc; put 0 0; meetAll; take 2 0 3; meetAll; type x"},
        {"three letters that hands 1 and 3 have not heard", "type abc; put 0 0; meet 0 2; meet 2 4; type x"},
        {"edits that wait", "type abc; put 0 0; type d; put 0 1; deliver 2 1; deliver 4 1; open 2; type ef"},
        {"60 letters", FULL_TEXT + "length 0 = 60; type 1"},
        {"60 letters, 12 typed", FULL_TEXT + "type 123456789012"},
        {"59 letters, two typed", FULL_TEXT + "take 0 0 1; meetAll; type 12"},
        {"59 letters, one typed", FULL_TEXT + "take 0 0 1; meetAll; type 1"},
        {"61 letters", FULL_TEXT + "take 2 0 1; type 1; put 2 0; take 4 0 1; type 2; put 4 0; meetAll; length 3 = 61; type 1"},
        {"hands 0 and 4 made 40 edits", "type abc; put 0 0; meetAll; times 39 comment 0 0 1 7; times 40 mark 4 1 1 i true true; heard 0 0 = 40; heard 4 4 = 40; type 1"},
        {"hand 2 made 39 edits", "type abc; put 2 0; times 38 mark 2 1 2 b true false; meet 0 2; type 1"},
        {"40 edits, 60 letters, nothing typed", FULL_TEXT + "times 35 comment 0 59 1 0; times 40 comment 2 0 60 1"},
        {"40 edits, an open group", "type abc; put 0 0; meetAll; open 0; times 39 comment 0 0 1 7; open 2"},
        {"40 edits, two of them undoings", "type abc; put 0 0; times 37 comment 0 0 1 7; undo 0; undo 0; heard 0 0 = 40; open 0; type d"},
        {"undone", "type abc; put 0 0; type d; put 0 0; meetAll; undo 0; undo 0; type x"},
        {"undone, and done again", "type abc; put 2 0; type d; put 2 0; meetAll; undo 2; undo 2; redo 2; open 2"},
        {"an open group of no edits, and one of two", "type abc; put 0 0; meetAll; open 0; open 4; type d; put 4 1; take 4 2 1; type x"},
        {"199 on the way", "type abc; put 0 0; times 198 repeat 2 0; times 198 repeat 4 0; onWay 2 = 199; type d"},
        {"200 on the way", "type abc; put 0 0; times 199 repeat 2 0; times 199 repeat 4 0; onWay 4 = 200"},
        {"201 on the way", "type abc; put 0 0; times 199 repeat 2 0; take 0 0 1; onWay 2 = 201; type d"},
        {"comments", "type abcdef; put 0 0; comment 0 1 2 7; comment 0 0 1 -7; meetAll; comment 2 5 1 9; comment 4 0 6 MAX; type g"},
        {"all forgotten", "type abc; put 0 0; comment 0 0 3 1; undo 0; undo 0; redo 0; undo 0; open 2; open 0; meetAll; forget; type x"},
        {"forgotten, three letters left", "type abcdef; put 0 0; comment 0 1 4 1; take 0 1 3; open 2; type Q; put 4 0; undo 4; meetAll;"
            + "setCursor 2 2; forget; type x"},
        {"forgotten a moment ago, nothing typed", "type abcdef; put 0 0; comment 0 1 4 1; take 0 1 3; meetAll; forget; take 2 1 1"},
        {"forgotten with 40 edits", "type abc; put 0 0; times 39 comment 0 1 1 1; meetAll; forget; type x"},
    };

    private static int wrong = 0;
    private static String state;
    private static Script script;
    private static final List<int[]> batch = new ArrayList<>();
    private static final List<String> dues = new ArrayList<>();
    private static int mostInBatch;
    private static Calls reader;
    private static final Map<String, Integer> thrown = new HashMap<>();

    // what is so in the state
    private static int typed;
    private static boolean[] isOpen;
    private static int[] length, made, onWay, steps, comments, undoable, again;
    private static boolean haveAllHeardAll;
    private static final Map<Integer, Integer> lengthThen = new HashMap<>();

    public static void main(String[] args) {
        for (String[] named : STATES) {
            state = named[0];
            script = Script.of(named[1]);
            for (String line : script.wrong) {
                say(line);
            }
            look();
            mostInBatch = Math.max(1, script.again().left() - 200);
            for (Method method : Calls.METHODS.values()) {
                reader = null;
                calls(method.getName(), new int[method.getParameterCount()], 0);
                endBatch(method.getName());
            }
        }
        needAll();
        if (wrong != 0) {
            System.out.println(wrong + " wrong");
            System.exit(1);
        }
    }

    static void say(String what) {
        wrong++;
        if (wrong < 60) {
            System.out.println(state + ": " + what);
        }
    }

    static void look() {
        Calls x = script.again();
        lengthThen.clear();
        length = each(x, "length");
        onWay = each(x, "onWay");
        steps = each(x, "steps");
        comments = each(x, "comments");
        undoable = new int[5];
        again = new int[5];
        made = new int[5];
        isOpen = new boolean[5];
        haveAllHeardAll = true;
        for (int h = 0; h < 5; h++) {
            undoable[h] = x.number("groups", h, 0);
            again[h] = x.number("groups", h, 1);
            made[h] = x.number("heard", h, h);
            for (int o = 0; o < 5; o++) {
                haveAllHeardAll &= x.number("lacks", h, o) == 0;
            }
        }
        for (int h = 0; h < 5; h++) {
            isOpen[h] = !x.answer("close", h).endsWith("Exception");
        }
        typed = x.number("erase");
    }

    static int[] each(Calls x, String name) {
        int[] all = new int[5];
        for (int h = 0; h < 5; h++) {
            all[h] = x.number(name, h);
        }
        return all;
    }

    /** All calls with edges, from the parameter at an index on. */
    static void calls(String name, int[] a, int index) {
        if (index == a.length) {
            one(name, a.clone());
            return;
        }
        for (int edge : edges(name, a, index)) {
            a[index] = edge;
            calls(name, a, index + 1);
        }
    }

    static int[] edges(String name, int[] a, int index) {
        Class<?> kind = Calls.METHODS.get(name).getParameterTypes()[index];
        if (kind == boolean.class) {
            return new int[] {0, 1};
        }
        if (kind == char.class) {
            return name.equals("type") ? new int[] {0, 31, 32, 126, 127, 255, 65535} : name.equals("commentAt")
                ? new int[] {'n', 'f', 'l', 'c', 'N', 0} : new int[] {'b', 'i', 'a', 'B', 65535};
        }
        boolean isHand = index == 0 || index == 2 && name.equals("leans")
            || index == 1 && "meet lacks heard differ isAlike".contains(name);
        return isHand ? HANDS : numbers(name, a, index);
    }

    static int[] numbers(String name, int[] a, int index) {
        TreeSet<Integer> all = new TreeSet<>(List.of(MIN, -1, 0, 1, MAX));
        // no more is asked of a hand that there is not
        if (!isHand(a[0])) {
            return new int[] {-1, 0, 1, MAX};
        }
        int top = name.equals("leans") ? made[a[0]] : name.equals("commentAt") ? comments[a[0]]
            : "wayAt deliver repeat lose".contains(name) ? onWay[a[0]] : name.endsWith("Then") && index == 1 ? steps[a[0]] : length[a[0]];
        if (name.equals("move") && index == 3 || index == 2 && !name.endsWith("Then")) {
            top -= a[index == 3 ? 2 : 1] < 0 || a[index == 3 ? 2 : 1] > top ? 0 : a[index == 3 ? 2 : 1];
        }
        for (int more = -1; more <= 1; more++) {
            all.add(top + more);
        }
        all.add(top / 2);
        all.add(MAX - length[a[0]]);
        int[] list = new int[all.size()];
        int many = 0;
        for (int number : all) {
            list[many++] = number;
        }
        return list;
    }

    static void one(String name, int[] a) {
        String due = due(name, a);
        thrown.merge(name + " " + due, 1, Integer::sum);
        if (due.equals(NOTHING)) {
            reader = reader != null && reader.left() > 0 && Script.READING.contains(name) ? reader : script.again();
            String got = reader.answer(name, a);
            if (got.endsWith("Exception")) {
                say(name + Arrays.toString(a) + " answered " + got + ", due is " + due);
            }
            return;
        }
        batch.add(a);
        dues.add(due);
        if (batch.size() >= mostInBatch) {
            endBatch(name);
        }
    }

    /** Refused calls, one after the other, change nothing: the object goes on like another one without them. */
    static void endBatch(String name) {
        for (int part = 0; part < Script.PARTS && !batch.isEmpty(); part++) {
            Calls one = script.again();
            Calls other = script.again();
            for (int i = 0; i < batch.size(); i++) {
                String got = one.answer(name, batch.get(i));
                other.answer("length", 0);
                if (part == 0 && !got.equals(dues.get(i))) {
                    say(name + Arrays.toString(batch.get(i)) + " answered " + got + ", due is " + dues.get(i));
                }
            }
            if (!Script.life(one, part).equals(Script.life(other, part))) {
                say(name + ": a refused call changed something");
            }
        }
        batch.clear();
        dues.clear();
    }

    static boolean isHand(int hand) {
        return hand >= 0 && hand < 5;
    }

    static boolean isNoPlace(int hand, int place) {
        return place < 0 || place > length[hand];
    }

    static boolean isNoLetter(int hand, int place) {
        return place < 0 || place >= length[hand];
    }

    static boolean areNoLetters(int hand, int place, int many) {
        return many < 1 || isNoLetter(hand, place) || (long) place + many > length[hand];
    }

    static boolean isNoKind(int kind) {
        return kind != 'b' && kind != 'i';
    }

    /** The "Throws .." sentences of a method, in their order: name, applies, name, applies .. */
    static Object[] sentences(String name, int[] a) {
        int h = a.length > 0 ? a[0] : 0;
        switch (name) {
            case "type": return new Object[] {ARGUMENT, a[0] < 32 || a[0] > 126, STATE, typed == 12};
            case "forget": return new Object[] {STATE, !haveAllHeardAll};
            case "erase": case "checksum": case "isTrue": return new Object[] {};
            default:
        }
        if (!isHand(h)) {
            return new Object[] {BOUNDS, true};
        }
        switch (name) {
            case "put": return new Object[] {NONE, isNoPlace(h, a[1]), UNSUPPORTED, typed == 0, STATE, length[h] + typed > 60 || made[h] == 40};
            case "take": case "comment": return new Object[] {NONE, areNoLetters(h, a[1], a[2]), STATE, made[h] == 40};
            case "replace": return new Object[] {NONE, areNoLetters(h, a[1], a[2]), UNSUPPORTED, typed == 0,
                STATE, length[h] - a[2] + typed > 60 || made[h] == 40};
            case "move": return new Object[] {NONE, areNoLetters(h, a[1], a[2]) || a[3] < 0 || a[3] > length[h] - a[2], STATE, made[h] == 40};
            case "mark": return new Object[] {ARGUMENT, isNoKind(a[3]), NONE, areNoLetters(h, a[1], a[2]), STATE, made[h] == 40};
            case "write": return new Object[] {UNSUPPORTED, typed == 0, STATE, length[h] + typed > 60 || made[h] == 40};
            case "open": return new Object[] {STATE, isOpen[h]};
            case "close": return new Object[] {STATE, !isOpen[h]};
            case "undo": return new Object[] {NONE, undoable[h] == 0, STATE, made[h] == 40};
            case "redo": return new Object[] {NONE, again[h] == 0, STATE, made[h] == 40};
            case "signAt": case "birth": return new Object[] {NONE, isNoLetter(h, a[1])};
            case "isMarked": return new Object[] {ARGUMENT, isNoKind(a[2]), NONE, isNoLetter(h, a[1])};
            case "commentAt": return new Object[] {NONE, a[1] < 0 || a[1] >= comments[h], ARGUMENT, "nflc".indexOf(a[2]) < 0};
            case "setCursor": return new Object[] {NONE, isNoPlace(h, a[1])};
            case "wayAt": case "deliver": case "lose": return new Object[] {NONE, a[1] < 0 || a[1] >= onWay[h]};
            case "repeat": return new Object[] {NONE, a[1] < 0 || a[1] >= onWay[h], STATE, onWay[h] >= 200};
            case "meet": return new Object[] {BOUNDS, !isHand(a[1]), ARGUMENT, h == a[1]};
            case "lacks": case "heard": case "differ": case "isAlike": return new Object[] {BOUNDS, !isHand(a[1])};
            case "leans": return new Object[] {BOUNDS, !isHand(a[2]), NONE, a[1] < 1 || a[1] > made[h]};
            case "lengthThen": return new Object[] {NONE, a[1] < 0 || a[1] > steps[h]};
            case "signThen": return new Object[] {NONE, a[1] < 0 || a[1] > steps[h] || isNoPlaceThen(h, a[1], a[2])};
            case "othersShare": case "meanTime": return new Object[] {ARITHMETIC, length[h] == 0};
            default: return new Object[] {};
        }
    }

    static boolean isNoPlaceThen(int hand, int step, int place) {
        return place < 0 || place >= lengthThen.computeIfAbsent(100 * hand + step,
            key -> script.again().number("lengthThen", hand, step));
    }

    static String due(String name, int[] a) {
        Object[] all = sentences(name, a);
        for (int i = 0; i < all.length; i += 2) {
            if (all[i + 1].equals(true)) {
                return (String) all[i];
            }
        }
        return NOTHING;
    }

    /** Each exception that a method declares was due in some call, and each method answered in some. */
    static void needAll() {
        state = "all states";
        List<String> dull = new ArrayList<>();
        for (Method method : Calls.METHODS.values()) {
            if (!thrown.containsKey(method.getName() + " " + NOTHING)) {
                dull.add(method.getName());
            }
            for (Class<?> kind : method.getExceptionTypes()) {
                if (!thrown.containsKey(method.getName() + " " + kind.getSimpleName())) {
                    dull.add(method.getName() + " " + kind.getSimpleName());
                }
            }
        }
        if (!dull.isEmpty()) {
            say("never due: " + dull);
        }
    }
}
