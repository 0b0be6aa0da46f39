import java.util.ArrayList;
import java.util.List;
import java.util.Set;

/**
 * Calls of one object as a text tells them, by lines or with ';' between them: "take 0 1 2" is a call, "take 0 1 2 = 3"
 * one with the answer that is due, "take 0 1 9 ! NoSuchElement" one that throws this and changes nothing,
 * "times 40 put 0 0" is many. MIN and MAX are the least and the greatest int, #127 is a sign by its code. What stands
 * behind '#' and a blank is a remark.
 */
final class Script {
    /** Three letters, which hand 0 put, and all have heard. */
    static final String ABC = "type abc; put 0 0; meetAll;";
    /** 60 letters, at hand 0. */
    static final String SIXTY = """
        type abcdefghijkl; put 0 0 = 12; type abcdefghijkl; put 0 0 = 24; type abcdefghijkl; put 0 0 = 36
        type abcdefghijkl; put 0 0 = 48; type abcdefghijkl; put 0 0 = 60
        """;
    static final Set<String> READING = Set.of("groups", "length", "signAt", "birth", "isMarked", "runs", "comments",
        "commentAt", "cursor", "onWay", "wayAt", "waiting", "lacks", "heard", "leans", "steps", "lengthThen", "signThen",
        "differ", "isAlike", "kept", "othersShare", "meanTime", "checksum", "isTrue");
    private static final int HANDS = 5;

    final Calls x = new Calls();
    final List<String> wrong = new ArrayList<>();
    private final List<String> names = new ArrayList<>();
    private final List<int[]> numbers = new ArrayList<>();

    static Script of(String text) {
        Script script = new Script();
        script.run(text);
        return script;
    }

    void run(String text) {
        for (String line : text.split("[\n;]")) {
            int remark = line.indexOf("# ");
            String told = (remark < 0 ? line : line.substring(0, remark)).trim();
            if (!told.isEmpty()) {
                line(told);
            }
        }
    }

    private void line(String line) {
        String[] words = line.split(" +");
        if (words[0].equals("times")) {
            String rest = line.substring(line.indexOf(words[2]));
            for (int i = Integer.parseInt(words[1]); i > 0; i--) {
                line(rest);
            }
            return;
        }
        int end = words.length > 2 ? words.length - 2 : words.length;
        String sign = end < words.length ? words[end] : "";
        boolean isAnswer = sign.equals("=");
        boolean isRefusal = sign.equals("!");
        String[] call = isAnswer || isRefusal ? java.util.Arrays.copyOf(words, end) : words;
        String got = isRefusal ? refused(call) : told(call);
        String want = isAnswer ? words[end + 1] : isRefusal ? words[end + 1] + "Exception" : null;
        if (want == null ? got.endsWith("Exception") : !want.equals(got)) {
            wrong.add(line + ": answered " + got + (want == null ? "" : ", due is " + want));
        }
    }

    private String told(String[] words) {
        int hand = words.length > 1 && words[1].matches("[0-4]") ? Integer.parseInt(words[1]) : 0;
        switch (words[0]) {
            case "type": return type(words[1]);
            case "meetAll": return meetAll();
            case "text": return text(hand);
            case "code": return Integer.toString(x.answer("signAt", numbersOf(words)).charAt(0));
            case "births": return list("birth", hand, x.number("length", hand));
            case "way": return list("wayAt", hand, x.number("onWay", hand));
            case "marks": return marks(hand, words[2].charAt(0));
            case "then": return then(hand, Integer.parseInt(words[2]));
            case "hung": return hung(hand);
            default: return made(words[0], numbersOf(words));
        }
    }

    private String type(String signs) {
        if (signs.startsWith("#")) {
            return made("type", signOf(signs));
        }
        String answer = "";
        for (char sign : signs.toCharArray()) {
            answer = made("type", sign);
        }
        return answer;
    }

    private String meetAll() {
        for (int i = 0; i < 8; i++) {
            made("meet", 4, i % 4);
        }
        return "";
    }

    private String text(int hand) {
        StringBuilder text = new StringBuilder();
        for (int i = 0; i < x.number("length", hand); i++) {
            text.append(x.answer("signAt", hand, i));
        }
        return text.isEmpty() ? "nothing" : text.toString();
    }

    private String list(String name, int hand, int many) {
        StringBuilder list = new StringBuilder();
        for (int i = 0; i < many; i++) {
            list.append(i == 0 ? "" : ",").append(x.answer(name, hand, i));
        }
        return list.isEmpty() ? "none" : list.toString();
    }

    private String marks(int hand, char kind) {
        StringBuilder marks = new StringBuilder();
        for (int i = 0; i < x.number("length", hand); i++) {
            marks.append(x.answer("isMarked", hand, i, kind).equals("true") ? '1' : '0');
        }
        return marks.toString();
    }

    private String then(int hand, int step) {
        StringBuilder text = new StringBuilder();
        for (int i = 0; i < x.number("lengthThen", hand, step); i++) {
            text.append(x.answer("signThen", hand, step, i));
        }
        return text.isEmpty() ? "nothing" : text.toString();
    }

    /** Each comment as number:first-last:code. */
    private String hung(int hand) {
        StringBuilder hung = new StringBuilder();
        for (int i = 0; i < x.number("comments", hand); i++) {
            hung.append(i == 0 ? "" : ",").append(x.answer("commentAt", hand, i, 'n')).append(':')
                .append(x.answer("commentAt", hand, i, 'f')).append('-').append(x.answer("commentAt", hand, i, 'l'))
                .append(':').append(x.answer("commentAt", hand, i, 'c'));
        }
        return hung.isEmpty() ? "none" : hung.toString();
    }

    private static int[] numbersOf(String[] words) {
        int[] all = new int[words.length - 1];
        for (int i = 0; i < all.length; i++) {
            all[i] = numberOf(words[i + 1]);
        }
        return all;
    }

    private static int numberOf(String word) {
        switch (word) {
            case "MIN": return Integer.MIN_VALUE;
            case "MAX": return Integer.MAX_VALUE;
            case "true": return 1;
            case "false": return 0;
            default: return word.matches("-?[0-9]+") ? Integer.parseInt(word) : signOf(word);
        }
    }

    private static int signOf(String word) {
        return word.length() > 1 ? Integer.parseInt(word.substring(1)) : word.charAt(0);
    }

    private String made(String name, int... a) {
        if (!READING.contains(name)) {
            names.add(name);
            numbers.add(a);
        }
        return x.answer(name, a);
    }

    /** A new object by the same calls. */
    Calls again() {
        Calls other = new Calls();
        for (int i = 0; i < names.size(); i++) {
            other.answer(names.get(i), numbers.get(i));
        }
        return other;
    }

    private String refused(String[] words) {
        int[] a = words[0].equals("type") ? new int[] {signOf(words[1])} : numbersOf(words);
        String got = x.answer(words[0], a);
        for (int part = 0; part < PARTS; part++) {
            Calls one = again();
            one.answer(words[0], a);
            if (!life(one, part).equals(life(again(), part))) {
                wrong.add(String.join(" ", words) + ": it changed something");
            }
        }
        return got;
    }

    static final int PARTS = 3;

    /** What an object answers from now on: by reading, by an end of all groups, and by going on. */
    static String life(Calls x, int part) {
        StringBuilder all = new StringBuilder();
        if (part == 0) {
            read(x, all);
        } else if (part == 1) {
            turn(x, all);
        } else {
            goOn(x, all);
        }
        return all.toString();
    }

    private static void add(StringBuilder all, Calls x, String name, int... a) {
        if (x.left() > 0) {
            all.append(' ').append(x.answer(name, a));
        }
    }

    private static void read(Calls x, StringBuilder all) {
        add(all, x, "checksum");
        for (int hand = 0; hand < HANDS; hand++) {
            for (String name : new String[] {"onWay", "waiting", "steps", "kept", "comments", "cursor", "runs"}) {
                add(all, x, name, hand);
            }
            add(all, x, "groups", hand, 0);
            add(all, x, "groups", hand, 1);
            for (int i = 0; i < 4; i++) {
                add(all, x, "commentAt", hand, i, 'n');
                add(all, x, "birth", hand, i);
                add(all, x, "wayAt", hand, i);
                add(all, x, "lengthThen", hand, i);
            }
        }
        add(all, x, "isTrue");
    }

    private static void turn(Calls x, StringBuilder all) {
        for (int hand = 0; hand < HANDS; hand++) {
            add(all, x, "close", hand);
            add(all, x, "redo", hand);
            add(all, x, "undo", hand);
            add(all, x, "undo", hand);
            add(all, x, "redo", hand);
            add(all, x, "open", hand);
        }
        add(all, x, "checksum");
    }

    private static void goOn(Calls x, StringBuilder all) {
        for (int hand = 0; hand < HANDS; hand++) {
            add(all, x, "write", hand);
            add(all, x, "type", 'x');
            add(all, x, "put", hand, 0);
            add(all, x, "deliver", hand, 0);
            add(all, x, "deliver", hand, 0);
            add(all, x, "repeat", hand, 0);
            add(all, x, "close", hand);
            add(all, x, "undo", hand);
            add(all, x, "setCursor", hand, 0);
        }
        add(all, x, "forget");
        add(all, x, "meet", 0, 1);
        add(all, x, "erase");
        add(all, x, "checksum");
    }
}
