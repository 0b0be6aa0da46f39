import java.util.NoSuchElementException;

/** For each promise of the document: ordinary calls, the edges that it names, and wrong ones. */
public final class PromisesTest {
    private static final Class<?> BOUNDS = IndexOutOfBoundsException.class;
    private static final Class<?> NONE = NoSuchElementException.class;
    private static final Class<?> STATE = IllegalStateException.class;
    private static final Class<?> ARGUMENT = IllegalArgumentException.class;
    private static final Class<?> UNSUPPORTED = UnsupportedOperationException.class;
    private static final Class<?> ARITHMETIC = ArithmeticException.class;

    private static int wrong = 0;
    private static int promise = 0;

    interface Call {
        Object now();
    }

    static void due(Object want, Object got) {
        if (!want.equals(got)) {
            wrong++;
            System.out.println("promise " + promise + ": answered " + got + ", due is " + want
                + " (" + Thread.currentThread().getStackTrace()[2] + ")");
        }
    }

    /** The call throws just this, and changes nothing. */
    static void refused(Manypens x, Class<?> want, Call call) {
        String before = all(x);
        Object got;
        try {
            got = call.now();
        } catch (RuntimeException e) {
            got = e.getClass();
        }
        if (got != want) {
            wrong++;
            System.out.println("promise " + promise + ": " + got + ", due is " + want
                + " (" + Thread.currentThread().getStackTrace()[2] + ")");
        }
        if (!before.equals(all(x))) {
            wrong++;
            System.out.println("promise " + promise + ": a refused call changed something"
                + " (" + Thread.currentThread().getStackTrace()[2] + ")");
        }
    }

    static String all(Manypens x) {
        StringBuilder s = new StringBuilder().append(x.checksum());
        for (int h = 0; h < 5; h++) {
            s.append(' ').append(x.groups(h, true)).append(' ').append(x.groups(h, false)).append(' ').append(x.waiting(h))
                .append(' ').append(x.steps(h)).append(' ').append(x.kept(h)).append(' ').append(x.comments(h));
            for (int i = 0; i < x.onWay(h); i++) {
                s.append(',').append(x.wayAt(h, i));
            }
        }
        return s.toString();
    }

    static String text(Manypens x, int hand) {
        StringBuilder s = new StringBuilder();
        for (int i = 0; i < x.length(hand); i++) {
            s.append(x.signAt(hand, i));
        }
        return s.toString();
    }

    /** Which letters have a mark, as 1 and 0. */
    static String marks(Manypens x, int hand, char kind) {
        StringBuilder s = new StringBuilder();
        for (int i = 0; i < x.length(hand); i++) {
            s.append(x.isMarked(hand, i, kind) ? '1' : '0');
        }
        return s.toString();
    }

    static String then(Manypens x, int hand, int step) {
        StringBuilder s = new StringBuilder();
        for (int i = 0; i < x.lengthThen(hand, step); i++) {
            s.append(x.signThen(hand, step, i));
        }
        return s.toString();
    }

    static Manypens typed(Manypens x, String signs) {
        for (char c : signs.toCharArray()) {
            x.type(c);
        }
        return x;
    }

    static int put(Manypens x, int hand, int place, String signs) {
        return typed(x, signs).put(hand, place);
    }

    /** A new object in which hand 0 put this, and all heard it. */
    static Manypens start(String signs) {
        Manypens x = new Manypens();
        put(x, 0, 0, signs);
        meetAll(x);
        return x;
    }

    static void meetAll(Manypens x) {
        for (int i = 0; i < 8; i++) {
            x.meet(4, i % 4);
        }
    }

    static void fillEdits(Manypens x, int hand, int left) {
        while (x.heard(hand, hand) < 40 - left) {
            x.comment(hand, 0, 1, 0);
        }
    }

    public static void main(String[] args) {
        typing();
        putting();
        taking();
        replacing();
        moving();
        marking();
        commenting();
        writing();
        grouping();
        undoing();
        reading();
        runs();
        comments();
        cursors();
        way();
        delivering();
        repeating();
        meeting();
        counting();
        past();
        comparing();
        forgetting();
        forgettingMarks();
        figures();
        checksum();
        theorem();
        crowd();
        multitude();
        beyondInts();
        if (wrong != 0) {
            System.out.println(wrong + " wrong");
            System.exit(1);
        }
    }

    static void typing() {
        promise = 1;
        Manypens x = new Manypens();
        for (int h = 0; h < 5; h++) {
            due(0, x.length(h));
            due(0, x.onWay(h));
            due(0, x.steps(h));
            due(0, x.heard(h, h));
            due(0, x.cursor(h));
            due(0, x.groups(h, false));
            due(0, x.groups(h, true));
            due(0, x.kept(h));
        }
        due(0, x.erase());
        promise = 2;
        refused(x, ARGUMENT, () -> x.type((char) 31));
        refused(x, ARGUMENT, () -> x.type((char) 127));
        refused(x, ARGUMENT, () -> x.type((char) 0));
        refused(x, ARGUMENT, () -> x.type((char) 65535));
        due(1, x.type((char) 32));
        due(2, x.type((char) 126));
        for (int i = 3; i <= 12; i++) {
            due(i, x.type('x'));
        }
        refused(x, STATE, () -> x.type('x'));
        refused(x, ARGUMENT, () -> x.type((char) 31));
        promise = 3;
        due(12, x.erase());
        due(0, x.erase());
        refused(x, UNSUPPORTED, () -> x.put(0, 0));
        due(1, x.type('y'));
        due(1, x.erase());
    }

    static void putting() {
        promise = 4;
        Manypens x = new Manypens();
        due(2, put(x, 0, 0, "ad"));
        due(4, put(x, 0, 1, "bc"));
        due("abcd", text(x, 0));
        due(5, put(x, 0, 4, "e"));
        due(6, put(x, 0, 0, "^"));
        due("^abcde", text(x, 0));
        due("", text(x, 1));
        due(0, x.erase());
        typed(x, "q");
        refused(x, BOUNDS, () -> x.put(5, -9));
        refused(x, BOUNDS, () -> x.put(-1, 0));
        refused(x, NONE, () -> x.put(0, 7));
        refused(x, NONE, () -> x.put(0, -1));
        refused(x, NONE, () -> x.put(1, 1));
        x.erase();
        refused(x, NONE, () -> x.put(0, 7));
        refused(x, UNSUPPORTED, () -> x.put(0, 6));
        for (int i = 0; i < 4; i++) {
            put(x, 0, 0, "123456789012");
        }
        typed(x, "1234567");
        refused(x, STATE, () -> x.put(0, 0));
        x.erase();
        due(60, put(x, 0, 0, "123456"));
        typed(x, "1");
        refused(x, STATE, () -> x.put(0, 60));
        refused(x, NONE, () -> x.put(0, 61));
        Manypens y = start("a");
        fillEdits(y, 0, 1);
        due(2, put(y, 0, 1, "b"));
        typed(y, "c");
        refused(y, STATE, () -> y.put(0, 1));
        due(2, y.put(1, 1));

        // of two at one place that of the greater time stands first, of like times that of the higher hand
        Manypens z = start("az");
        put(z, 1, 1, "111");
        put(z, 2, 1, "222");
        put(z, 0, 2, "!");
        put(z, 0, 1, "00");
        meetAll(z);
        due("a00222111z!", text(z, 0));
        due("a00222111z!", text(z, 3));
        // what was put behind a letter that is not seen any more stays there
        Manypens w = start("abc");
        put(w, 1, 2, "B");
        w.take(0, 0, 3);
        put(w, 2, 1, "A");
        put(w, 3, 0, "0");
        put(w, 4, 3, "C");
        meetAll(w);
        due("0ABC", text(w, 0));
        // an edit of a later time, but put behind an earlier letter, stands ahead of its whole tail
        Manypens v = start("ab");
        put(v, 1, 1, "x");
        put(v, 1, 2, "y");
        put(v, 2, 1, "p");
        meetAll(v);
        due("apxyb", text(v, 2));
    }

    static void taking() {
        promise = 5;
        Manypens x = start("abcde");
        due(3, x.take(0, 1, 2));
        due("ade", text(x, 0));
        due("abcde", text(x, 1));
        due(5, x.kept(0));
        refused(x, BOUNDS, () -> x.take(5, 0, 0));
        refused(x, NONE, () -> x.take(0, 0, 0));
        refused(x, NONE, () -> x.take(0, 0, -1));
        refused(x, NONE, () -> x.take(0, 0, Integer.MIN_VALUE));
        refused(x, NONE, () -> x.take(0, -1, 1));
        refused(x, NONE, () -> x.take(0, 3, 1));
        refused(x, NONE, () -> x.take(0, 2, 2));
        refused(x, NONE, () -> x.take(0, 1, Integer.MAX_VALUE));
        refused(x, NONE, () -> x.take(0, Integer.MAX_VALUE, 2));
        due(2, x.take(0, 2, 1));
        due(0, x.take(0, 0, 2));
        refused(x, NONE, () -> x.take(0, 0, 1));
        // two take the same one; one of them undoes it, and it is still not seen
        due(4, x.take(1, 0, 1));
        meetAll(x);
        due("", text(x, 3));
        x.undo(0);
        meetAll(x);
        due("d", text(x, 3));
        due(1, x.undo(1));
        meetAll(x);
        due("ad", text(x, 3));
        Manypens y = start("abc");
        fillEdits(y, 0, 0);
        refused(y, STATE, () -> y.take(0, 0, 1));
        refused(y, NONE, () -> y.take(0, 0, 4));
        // the very first edit of hand 0, and the last one of hand 4
        Manypens z = new Manypens();
        put(z, 4, 0, "abc");
        z.meet(0, 4);
        due(2, z.take(0, 0, 1));
        fillEdits(z, 4, 1);
        due(2, z.take(4, 1, 1));
        due("ac", text(z, 4));
        meetAll(z);
        due("c", text(z, 2));
    }

    static void replacing() {
        promise = 6;
        Manypens x = start("abcde");
        typed(x, "XYZ");
        due(6, x.replace(0, 1, 2));
        due("aXYZde", text(x, 0));
        due(0, x.erase());
        due(2, x.birth(0, 1));
        due(2, x.groups(0, false));
        due(1, x.undo(0));
        due("abcde", text(x, 0));
        due(1, x.redo(0));
        due("aXYZde", text(x, 0));
        refused(x, UNSUPPORTED, () -> x.replace(0, 0, 1));
        refused(x, NONE, () -> x.replace(0, 0, 7));
        typed(x, "q");
        refused(x, BOUNDS, () -> x.replace(-1, 0, 1));
        refused(x, NONE, () -> x.replace(0, 6, 1));
        refused(x, NONE, () -> x.replace(0, 0, 0));
        refused(x, NONE, () -> x.replace(0, -1, 1));
        refused(x, NONE, () -> x.replace(0, 1, Integer.MAX_VALUE));
        due(1, x.replace(0, 0, 6));
        due("q", text(x, 0));
        Manypens y = start("012345678901");
        for (int i = 0; i < 4; i++) {
            put(y, 0, 0, "abcdefghijkl");
        }
        typed(y, "123");
        refused(y, STATE, () -> y.replace(0, 0, 2));
        due(60, y.replace(0, 57, 3));
        Manypens z = start("abc");
        fillEdits(z, 0, 0);
        typed(z, "x");
        refused(z, STATE, () -> z.replace(0, 0, 1));
        // letters behind the taken ones go behind what replaces them, others ahead stay ahead
        Manypens w = start("abc");
        typed(w, "X");
        w.replace(1, 1, 1);
        put(w, 2, 2, "q");
        meetAll(w);
        due("aXqc", text(w, 0));
    }

    static void moving() {
        promise = 7;
        Manypens x = start("abcdef");
        due(3, x.move(0, 0, 2, 3));
        due("cdeabf", text(x, 0));
        due(-3, x.move(0, 3, 2, 0));
        due("abcdef", text(x, 0));
        due(3, x.birth(0, 0));
        due(1, x.birth(0, 2));
        due(4, x.move(0, 0, 2, 4));
        due("cdefab", text(x, 0));
        due(0, x.move(0, 1, 2, 1));
        due("cdefab", text(x, 0));
        due(5, x.birth(0, 1));
        due(0, x.move(0, 0, 6, 0));
        due("cdefab", text(x, 0));
        refused(x, BOUNDS, () -> x.move(7, 0, 0, 0));
        refused(x, NONE, () -> x.move(0, 0, 0, 0));
        refused(x, NONE, () -> x.move(0, 5, 2, 0));
        refused(x, NONE, () -> x.move(0, -1, 1, 0));
        refused(x, NONE, () -> x.move(0, 0, 2, 5));
        refused(x, NONE, () -> x.move(0, 0, 2, -1));
        refused(x, NONE, () -> x.move(0, 0, 6, 1));
        refused(x, NONE, () -> x.move(0, 0, Integer.MAX_VALUE, 0));
        due(1, x.undo(0));
        due(1, x.undo(0));
        due(1, x.birth(0, 1));
        fillEdits(x, 0, 0);
        refused(x, STATE, () -> x.move(0, 0, 1, 0));
        refused(x, NONE, () -> x.move(0, 0, 1, 6));
        // two move the same letters: both sets of new ones are seen
        Manypens y = start("abc");
        y.move(1, 0, 1, 2);
        y.move(2, 0, 1, 1);
        meetAll(y);
        due("baca", text(y, 3));
        // what was told of the old ones alone stays with these
        Manypens z = start("abcd");
        z.mark(0, 1, 1, 'b', true, false);
        z.comment(0, 1, 1, 5);
        z.setCursor(0, 2);
        z.move(0, 1, 1, 3);
        due("acdb", text(z, 0));
        due("0000", marks(z, 0, 'b'));
        due(0, z.comments(0));
        due(1, z.cursor(0));
    }

    static void marking() {
        promise = 8;
        Manypens x = start("abcd");
        due(2, x.mark(0, 1, 2, 'b', true, false));
        due("0110", marks(x, 0, 'b'));
        due("0000", marks(x, 0, 'i'));
        due(1, x.mark(1, 0, 4, 'i', true, false));
        due(3, x.mark(0, 2, 1, 'b', false, false));
        due("0100", marks(x, 0, 'b'));
        put(x, 0, 2, "x");
        due("01100", marks(x, 0, 'b'));
        x.undo(0);
        x.undo(0);
        due("0110", marks(x, 0, 'b'));
        put(x, 0, 3, "y");
        put(x, 0, 2, "m");
        due("011100", marks(x, 0, 'b'));
        refused(x, BOUNDS, () -> x.mark(5, 9, 0, 'x', true, true));
        refused(x, ARGUMENT, () -> x.mark(0, 9, 0, 'x', true, true));
        refused(x, ARGUMENT, () -> x.mark(0, 0, 1, 'B', true, true));
        refused(x, NONE, () -> x.mark(0, 0, 0, 'b', true, true));
        refused(x, NONE, () -> x.mark(0, 6, 1, 'b', true, true));
        refused(x, NONE, () -> x.mark(0, -1, 1, 'b', true, true));
        refused(x, NONE, () -> x.mark(0, 1, Integer.MAX_VALUE, 'b', true, true));
        fillEdits(x, 0, 0);
        refused(x, STATE, () -> x.mark(0, 0, 1, 'b', true, true));
        refused(x, NONE, () -> x.mark(0, 6, 1, 'b', true, true));
        // growing: what is put at the end has it, the letter that was next has not
        Manypens y = start("abcd");
        y.mark(0, 1, 2, 'b', true, true);
        due("0110", marks(y, 0, 'b'));
        put(y, 0, 3, "xy");
        due("011110", marks(y, 0, 'b'));
        put(y, 0, 6, "z");
        due("0111100", marks(y, 0, 'b'));
        y.mark(0, 5, 2, 'i', true, true);
        put(y, 0, 7, "!");
        due("00000111", marks(y, 0, 'i'));
        y.mark(0, 6, 2, 'i', false, true);
        put(y, 0, 8, "?");
        due("000001000", marks(y, 0, 'i'));
        // the letter that was next bounds it, though it is not seen any more
        y.take(0, 5, 1);
        put(y, 0, 5, "Q");
        due("abcxyQz!?", text(y, 0));
        due("011111000", marks(y, 0, 'b'));
        // the greatest time tells, of like times the highest hand, in whatever order they are heard
        Manypens z = start("ab");
        z.mark(2, 0, 1, 'b', true, false);
        z.mark(1, 0, 2, 'b', false, false);
        z.mark(3, 1, 1, 'i', true, false);
        z.mark(1, 0, 2, 'i', false, false);
        z.meet(0, 1);
        z.meet(0, 2);
        z.meet(0, 3);
        due("10", marks(z, 0, 'b'));
        due("00", marks(z, 0, 'i'));
        meetAll(z);
        due("10", marks(z, 4, 'b'));
        due("00", marks(z, 4, 'i'));
    }

    static void commenting() {
        promise = 9;
        Manypens x = start("abcd");
        due(2, x.comment(0, 1, 2, -7));
        due(301, x.comment(3, 0, 1, Integer.MIN_VALUE));
        due(302, x.comment(3, 0, 1, 1));
        due(-7, x.commentAt(0, 0, 'c'));
        due(Integer.MIN_VALUE, x.commentAt(3, 0, 'c'));
        refused(x, BOUNDS, () -> x.comment(5, 0, 0, 0));
        refused(x, NONE, () -> x.comment(0, 0, 0, 0));
        refused(x, NONE, () -> x.comment(0, 4, 1, 0));
        refused(x, NONE, () -> x.comment(0, -1, 1, 0));
        refused(x, NONE, () -> x.comment(0, 3, 2, 0));
        refused(x, NONE, () -> x.comment(0, 1, Integer.MAX_VALUE, 0));
        fillEdits(x, 0, 0);
        refused(x, STATE, () -> x.comment(0, 0, 1, 0));
        refused(x, NONE, () -> x.comment(0, 0, 5, 0));
        // it does not grow, but has what comes between
        Manypens y = start("abcd");
        y.comment(0, 1, 2, 0);
        put(y, 0, 3, "x");
        put(y, 0, 2, "y");
        put(y, 0, 1, "z");
        due("azbycxd", text(y, 0));
        due(2, y.commentAt(0, 0, 'f'));
        due(4, y.commentAt(0, 0, 'l'));
    }

    static void writing() {
        promise = 10;
        Manypens x = new Manypens();
        refused(x, UNSUPPORTED, () -> x.write(0));
        refused(x, BOUNDS, () -> x.write(5));
        typed(x, "abc");
        refused(x, BOUNDS, () -> x.write(-1));
        due(3, x.write(0));
        due("abc", text(x, 0));
        due(0, x.erase());
        due(1, x.birth(0, 0));
        x.setCursor(0, 1);
        typed(x, "xy");
        due(3, x.write(0));
        due("axybc", text(x, 0));
        due(3, x.cursor(0));
        x.undo(0);
        due(1, x.cursor(0));
        typed(x, "q");
        due(2, x.write(0));
        due("aqbc", text(x, 0));
        refused(x, UNSUPPORTED, () -> x.write(0));
        for (int i = 0; i < 4; i++) {
            put(x, 0, 0, "123456789012");
        }
        due(50, x.cursor(0));
        put(x, 0, 0, "12345678");
        typed(x, "!");
        refused(x, STATE, () -> x.write(0));
        Manypens y = start("a");
        fillEdits(y, 0, 0);
        refused(y, UNSUPPORTED, () -> y.write(0));
        typed(y, "!");
        refused(y, STATE, () -> y.write(0));
        due(1, y.write(1));
        due("!a", text(y, 1));
        // a cursor behind a letter that is not seen: the signs come behind the seen one ahead of it
        Manypens z = start("abc");
        z.setCursor(0, 2);
        z.take(0, 1, 1);
        due(1, z.cursor(0));
        typed(z, "X");
        due(2, z.write(0));
        z.undo(0);
        z.undo(0);
        due("abc", text(z, 0));
        z.redo(0);
        z.redo(0);
        due("aXc", text(z, 0));
    }

    static void grouping() {
        promise = 11;
        Manypens x = start("abc");
        refused(x, BOUNDS, () -> x.open(5));
        refused(x, BOUNDS, () -> x.open(-1));
        due(0, x.open(1));
        due(1, x.open(0));
        refused(x, STATE, () -> x.open(0));
        put(x, 0, 0, "x");
        refused(x, STATE, () -> x.open(0));
        promise = 12;
        refused(x, BOUNDS, () -> x.close(5));
        refused(x, STATE, () -> x.close(2));
        x.mark(0, 0, 1, 'b', true, true);
        x.take(0, 1, 1);
        due(3, x.close(0));
        refused(x, STATE, () -> x.close(0));
        due(0, x.close(1));
        due(2, x.groups(0, false));
        due(2, x.open(0));
        due(0, x.close(0));
        due(2, x.groups(0, false));
        due(3, x.undo(0));
        due("abc", text(x, 0));
        due(3, x.redo(0));
        due("xbc", text(x, 0));
        due("100", marks(x, 0, 'b'));
        promise = 15;
        Manypens y = new Manypens();
        y.open(0);
        due(0, y.groups(0, false));
        put(y, 0, 0, "a");
        due(1, y.groups(0, false));
        put(y, 0, 0, "b");
        due(1, y.groups(0, false));
        due(0, y.groups(0, true));
        due(0, y.groups(1, false));
        y.close(0);
        put(y, 0, 0, "c");
        due(2, y.groups(0, false));
        y.undo(0);
        due(1, y.groups(0, false));
        due(1, y.groups(0, true));
        y.undo(0);
        due(0, y.groups(0, false));
        due(2, y.groups(0, true));
        put(y, 0, 0, "d");
        due(1, y.groups(0, false));
        due(0, y.groups(0, true));
        refused(y, BOUNDS, () -> y.groups(5, true));
        refused(y, BOUNDS, () -> y.groups(-1, false));
    }

    static void undoing() {
        promise = 13;
        Manypens x = start("a");
        put(x, 0, 1, "b");
        put(x, 0, 2, "c");
        due(1, x.undo(0));
        due("ab", text(x, 0));
        put(x, 0, 2, "d");
        due(1, x.undo(0));
        due(1, x.undo(0));
        due("a", text(x, 0));
        due(1, x.undo(0));
        due("", text(x, 0));
        refused(x, NONE, () -> x.undo(0));
        refused(x, NONE, () -> x.undo(1));
        refused(x, BOUNDS, () -> x.undo(5));
        due("a", text(x, 1));
        due(8, x.heard(0, 0));
        // an open group is closed by it, and is the one that is undone, if it has edits
        Manypens y = start("a");
        y.open(0);
        put(y, 0, 0, "b");
        put(y, 0, 0, "c");
        due(2, y.undo(0));
        due("a", text(y, 0));
        refused(y, STATE, () -> y.close(0));
        y.open(0);
        due(1, y.undo(0));
        refused(y, STATE, () -> y.close(0));
        y.open(0);
        refused(y, NONE, () -> y.undo(0));
        due(0, y.close(0));
        promise = 14;
        y.open(0);
        due(1, y.redo(0));
        refused(y, STATE, () -> y.close(0));
        due("a", text(y, 0));
        due(2, y.redo(0));
        due("cba", text(y, 0));
        refused(y, NONE, () -> y.redo(0));
        refused(y, BOUNDS, () -> y.redo(-1));
        due(2, y.undo(0));
        y.comment(0, 0, 1, 0);
        refused(y, NONE, () -> y.redo(0));
        due(1, y.undo(0));
        due(1, y.redo(0));
        // others hear of it; what they did stays
        Manypens z = start("ab");
        put(z, 0, 1, "xx");
        meetAll(z);
        put(z, 1, 2, "y");
        z.undo(0);
        meetAll(z);
        due("ayb", text(z, 1));
        z.redo(0);
        due("ayb", text(z, 1));
        meetAll(z);
        due("axyxb", text(z, 1));
        promise = 13;
        Manypens w = start("a");
        fillEdits(w, 0, 1);
        w.open(0);
        due(38, w.comments(0));
        due(1, w.undo(0));
        due(37, w.comments(0));
        w.open(0);
        refused(w, STATE, () -> w.undo(0));
        promise = 14;
        refused(w, STATE, () -> w.redo(0));
        due(0, w.close(0));
    }

    static void reading() {
        promise = 16;
        Manypens x = start("abc");
        due(3, x.length(0));
        due(3, x.length(4));
        put(x, 2, 3, "de");
        due(5, x.length(2));
        due(3, x.length(0));
        refused(x, BOUNDS, () -> x.length(5));
        refused(x, BOUNDS, () -> x.length(-1));
        promise = 17;
        due('a', x.signAt(0, 0));
        due('e', x.signAt(2, 4));
        refused(x, BOUNDS, () -> x.signAt(5, 0));
        refused(x, NONE, () -> x.signAt(0, 3));
        refused(x, NONE, () -> x.signAt(0, -1));
        promise = 18;
        due(1, x.birth(0, 0));
        due(201, x.birth(2, 4));
        put(x, 2, 0, "z");
        due(202, x.birth(2, 0));
        refused(x, BOUNDS, () -> x.birth(-1, 0));
        refused(x, NONE, () -> x.birth(0, 3));
        refused(x, NONE, () -> x.birth(0, -1));
        promise = 19;
        x.mark(2, 0, 2, 'i', true, true);
        due(true, x.isMarked(2, 1, 'i'));
        due(false, x.isMarked(2, 1, 'b'));
        due(false, x.isMarked(2, 2, 'i'));
        due(false, x.isMarked(0, 0, 'i'));
        refused(x, BOUNDS, () -> x.isMarked(5, 9, 'x'));
        refused(x, ARGUMENT, () -> x.isMarked(0, 9, 'x'));
        refused(x, NONE, () -> x.isMarked(0, 3, 'b'));
        refused(x, NONE, () -> x.isMarked(0, -1, 'b'));
    }

    static void runs() {
        promise = 20;
        Manypens x = new Manypens();
        due(0, x.runs(0));
        put(x, 0, 0, "abcdef");
        due(1, x.runs(0));
        x.mark(0, 2, 2, 'b', true, false);
        due(3, x.runs(0));
        x.mark(0, 3, 2, 'i', true, false);
        due(5, x.runs(0));
        x.take(0, 3, 1);
        due(4, x.runs(0));
        x.take(0, 0, 2);
        due(3, x.runs(0));
        due(0, x.runs(1));
        refused(x, BOUNDS, () -> x.runs(5));
    }

    static void comments() {
        promise = 21;
        Manypens x = start("abcdef");
        due(0, x.comments(0));
        x.comment(2, 3, 2, 11);
        x.comment(1, 1, 3, 22);
        x.comment(1, 3, 1, 33);
        x.comment(0, 3, 3, 44);
        due(1, x.comments(0));
        meetAll(x);
        due(4, x.comments(0));
        promise = 22;
        int[][] want = {{101, 1, 3, 22}, {2, 3, 5, 44}, {102, 3, 3, 33}, {201, 3, 4, 11}};
        for (int i = 0; i < 4; i++) {
            due(want[i][0], x.commentAt(4, i, 'n'));
            due(want[i][1], x.commentAt(4, i, 'f'));
            due(want[i][2], x.commentAt(4, i, 'l'));
            due(want[i][3], x.commentAt(4, i, 'c'));
        }
        refused(x, BOUNDS, () -> x.commentAt(5, 9, 'x'));
        refused(x, NONE, () -> x.commentAt(0, 4, 'x'));
        refused(x, NONE, () -> x.commentAt(0, -1, 'n'));
        refused(x, ARGUMENT, () -> x.commentAt(0, 0, 'x'));
        refused(x, ARGUMENT, () -> x.commentAt(0, 0, 'N'));
        // the first letter that is seen counts
        x.take(0, 1, 2);
        due(101, x.commentAt(0, 1, 'n'));
        due(2, x.commentAt(0, 0, 'n'));
        due(1, x.commentAt(0, 1, 'f'));
        due(1, x.commentAt(0, 1, 'l'));
        promise = 21;
        x.take(0, 1, 1);
        due(2, x.comments(0));
        due(2, x.commentAt(0, 0, 'n'));
        due(201, x.commentAt(0, 1, 'n'));
        x.undo(1);
        x.meet(0, 1);
        due(2, x.comments(0));
        x.undo(0);
        due(3, x.comments(0));
        refused(x, BOUNDS, () -> x.comments(5));
        refused(x, BOUNDS, () -> x.comments(-1));
    }

    static void cursors() {
        promise = 23;
        Manypens x = start("abcd");
        due(0, x.setCursor(0, 4));
        due(4, x.setCursor(0, 2));
        refused(x, BOUNDS, () -> x.setCursor(5, 0));
        refused(x, NONE, () -> x.setCursor(0, 5));
        refused(x, NONE, () -> x.setCursor(0, -1));
        promise = 24;
        due(2, x.cursor(0));
        due(0, x.cursor(1));
        put(x, 0, 0, "x");
        due(3, x.cursor(0));
        put(x, 0, 3, "y");
        due(3, x.cursor(0));
        put(x, 1, 1, "zz");
        x.meet(0, 1);
        due("xazzbycd", text(x, 0));
        due(5, x.cursor(0));
        x.take(0, 3, 2);
        due(3, x.cursor(0));
        put(x, 0, 3, "Q");
        due("xazQycd", text(x, 0));
        due(4, x.cursor(0));
        x.undo(0);
        x.undo(0);
        due(5, x.cursor(0));
        due(5, x.setCursor(0, 0));
        put(x, 0, 0, "first");
        due(0, x.cursor(0));
        refused(x, BOUNDS, () -> x.cursor(5));
        refused(x, BOUNDS, () -> x.cursor(-1));
    }

    static void way() {
        promise = 25;
        Manypens x = new Manypens();
        put(x, 0, 0, "a");
        put(x, 1, 0, "b");
        put(x, 0, 0, "c");
        x.undo(0);
        due(3, x.onWay(1));
        due(1, x.onWay(0));
        due(4, x.onWay(4));
        refused(x, BOUNDS, () -> x.onWay(5));
        refused(x, BOUNDS, () -> x.onWay(-1));
        promise = 26;
        due(1, x.wayAt(2, 0));
        due(101, x.wayAt(2, 1));
        due(2, x.wayAt(2, 2));
        due(3, x.wayAt(2, 3));
        due(101, x.wayAt(0, 0));
        refused(x, BOUNDS, () -> x.wayAt(5, 0));
        refused(x, NONE, () -> x.wayAt(2, 4));
        refused(x, NONE, () -> x.wayAt(2, -1));
        promise = 29;
        refused(x, BOUNDS, () -> x.lose(5, 0));
        refused(x, NONE, () -> x.lose(2, 4));
        refused(x, NONE, () -> x.lose(2, -1));
        due(3, x.lose(2, 1));
        due(1, x.wayAt(2, 0));
        due(2, x.wayAt(2, 1));
        due(0, x.lose(0, 0));
        due(0, x.heard(0, 1));
        refused(x, NONE, () -> x.lose(0, 0));
    }

    static void delivering() {
        promise = 27;
        Manypens x = new Manypens();
        put(x, 0, 0, "a");
        put(x, 0, 1, "b");
        put(x, 0, 2, "c");
        x.deliver(1, 0);
        x.deliver(1, 0);
        put(x, 1, 2, "d");
        x.meet(1, 3);
        put(x, 3, 0, "e");
        // hand 2 has 1, 2, 3, 101, 301 on the way
        due('w', x.deliver(2, 4));
        due('w', x.deliver(2, 3));
        due('w', x.deliver(2, 2));
        due(3, x.waiting(2));
        due("", text(x, 2));
        due(2, x.onWay(2));
        x.repeat(2, 1);
        due('w', x.deliver(2, 1));
        due('k', x.deliver(2, 1));
        due(4, x.waiting(2));
        due('h', x.deliver(2, 0));
        due(0, x.waiting(2));
        due(5, x.steps(2));
        due("eabdc", text(x, 2));
        // of the waiting ones the lowest hand's first: 1, 2, 3, then 101, 301
        due("a", then(x, 2, 1));
        due("ab", then(x, 2, 2));
        due("abc", then(x, 2, 3));
        due("abdc", then(x, 2, 4));
        refused(x, NONE, () -> x.deliver(2, 0));
        refused(x, NONE, () -> x.deliver(1, -1));
        refused(x, BOUNDS, () -> x.deliver(5, 0));
        refused(x, BOUNDS, () -> x.deliver(-1, 0));
        due('h', x.deliver(1, 0));
        due('h', x.deliver(1, 0));
        due("eabdc", text(x, 1));
        // what was heard in meeting is known
        due('k', x.deliver(3, 0));
        // hand 0's very first edit can lean on others, and wait
        Manypens z = new Manypens();
        put(z, 1, 0, "ab");
        z.deliver(0, 0);
        put(z, 0, 1, "-");
        due('w', z.deliver(2, 1));
        due(1, z.waiting(2));
        z.repeat(2, 0);
        due('h', z.deliver(2, 0));
        due(0, z.waiting(2));
        due("a-b", text(z, 2));
        due('k', z.deliver(2, 0));
        z.deliver(3, 1);
        due(2, z.meet(3, 2));
        due(0, z.waiting(3));
        promise = 31;
        refused(x, BOUNDS, () -> x.waiting(5));
        refused(x, BOUNDS, () -> x.waiting(-1));
        Manypens y = new Manypens();
        put(y, 0, 0, "a");
        put(y, 0, 0, "b");
        due(0, y.waiting(1));
        due('w', y.deliver(1, 1));
        due(1, y.waiting(1));
        y.meet(1, 0);
        due(0, y.waiting(1));
        due(2, y.heard(1, 0));
        due(2, y.steps(1));
    }

    static void repeating() {
        promise = 28;
        Manypens x = new Manypens();
        put(x, 0, 0, "a");
        put(x, 0, 0, "b");
        refused(x, BOUNDS, () -> x.repeat(5, 0));
        refused(x, NONE, () -> x.repeat(1, 2));
        refused(x, NONE, () -> x.repeat(1, -1));
        refused(x, NONE, () -> x.repeat(0, 0));
        due(3, x.repeat(1, 0));
        due(1, x.wayAt(1, 2));
        due(2, x.wayAt(1, 1));
        due('h', x.deliver(1, 2));
        due('k', x.deliver(1, 0));
        due('h', x.deliver(1, 0));
        for (int i = 3; i <= 200; i++) {
            due(i, x.repeat(2, 1));
        }
        refused(x, STATE, () -> x.repeat(2, 0));
        refused(x, NONE, () -> x.repeat(2, 200));
        put(x, 0, 0, "c");
        due(201, x.onWay(2));
        due(3, x.wayAt(2, 200));
        refused(x, STATE, () -> x.repeat(2, 200));
        due(200, x.lose(2, 0));
        refused(x, STATE, () -> x.repeat(2, 0));
        due(199, x.lose(2, 0));
        due(200, x.repeat(2, 198));
        due(3, x.wayAt(2, 199));
    }

    static void meeting() {
        promise = 30;
        Manypens x = new Manypens();
        put(x, 0, 0, "a");
        put(x, 0, 1, "b");
        put(x, 1, 0, "c");
        refused(x, BOUNDS, () -> x.meet(5, 5));
        refused(x, BOUNDS, () -> x.meet(0, 5));
        refused(x, BOUNDS, () -> x.meet(-1, 0));
        refused(x, ARGUMENT, () -> x.meet(1, 1));
        due(3, x.meet(1, 0));
        due(text(x, 0), text(x, 1));
        due("cab", text(x, 0));
        due(2, x.onWay(1));
        due(0, x.meet(0, 1));
        // of like times those of lower hands are heard first
        x.meet(1, 2);
        due("a", then(x, 2, 1));
        due("ca", then(x, 2, 2));
        due("cab", then(x, 2, 3));
        // one that waits is heard as soon as it can be, and counts; the other one does not hear it
        Manypens y = new Manypens();
        put(y, 0, 0, "a");
        y.meet(0, 1);
        put(y, 1, 1, "b");
        y.meet(1, 2);
        put(y, 0, 0, "c");
        y.meet(0, 2);
        // hand 3: 101 waits for 1, hand 4 has heard 1, and puts one of a later time, and hears 2
        due(101, y.wayAt(3, 1));
        due('w', y.deliver(3, 1));
        due('h', y.deliver(4, 0));
        put(y, 4, 1, "d");
        due(1, y.waiting(3));
        due(3, y.meet(3, 4));
        due(0, y.waiting(3));
        due(1, y.heard(3, 1));
        due(0, y.heard(4, 1));
        due("a", then(y, 3, 1));
        due("ab", then(y, 3, 2));
        due("adb", then(y, 3, 3));
        due("ad", text(y, 4));
    }

    static void counting() {
        promise = 32;
        Manypens x = new Manypens();
        put(x, 0, 0, "a");
        put(x, 0, 0, "b");
        put(x, 1, 0, "c");
        x.deliver(1, 0);
        put(x, 1, 0, "d");
        due(3, x.lacks(1, 2));
        due(1, x.lacks(0, 1));
        due(2, x.lacks(1, 0));
        due(0, x.lacks(2, 1));
        due(0, x.lacks(1, 1));
        refused(x, BOUNDS, () -> x.lacks(5, 0));
        refused(x, BOUNDS, () -> x.lacks(0, 5));
        promise = 33;
        due(2, x.heard(0, 0));
        due(1, x.heard(1, 0));
        due(2, x.heard(1, 1));
        due(0, x.heard(0, 1));
        refused(x, BOUNDS, () -> x.heard(5, 0));
        refused(x, BOUNDS, () -> x.heard(0, -1));
        promise = 34;
        due(0, x.leans(0, 1, 0));
        due(1, x.leans(0, 2, 0));
        due(0, x.leans(1, 1, 0));
        due(1, x.leans(1, 2, 0));
        due(1, x.leans(1, 2, 1));
        due(0, x.leans(1, 2, 4));
        refused(x, BOUNDS, () -> x.leans(5, 1, 0));
        refused(x, BOUNDS, () -> x.leans(0, 9, 5));
        refused(x, NONE, () -> x.leans(0, 3, 0));
        refused(x, NONE, () -> x.leans(0, 0, 0));
        refused(x, NONE, () -> x.leans(0, Integer.MIN_VALUE, 0));
        refused(x, NONE, () -> x.leans(2, 1, 0));
        fillEdits(x, 0, 0);
        due(39, x.leans(0, 40, 0));
        refused(x, NONE, () -> x.leans(0, 41, 0));
    }

    static void past() {
        promise = 35;
        Manypens x = new Manypens();
        put(x, 0, 0, "abc");
        x.take(0, 1, 1);
        x.undo(0);
        put(x, 1, 0, "z");
        x.deliver(0, 0);
        due(4, x.steps(0));
        due(1, x.steps(1));
        due(0, x.steps(2));
        refused(x, BOUNDS, () -> x.steps(5));
        promise = 36;
        due(0, x.lengthThen(0, 0));
        due(3, x.lengthThen(0, 1));
        due(2, x.lengthThen(0, 2));
        due(3, x.lengthThen(0, 3));
        due(4, x.lengthThen(0, 4));
        refused(x, BOUNDS, () -> x.lengthThen(5, 0));
        refused(x, NONE, () -> x.lengthThen(0, 5));
        refused(x, NONE, () -> x.lengthThen(0, -1));
        refused(x, NONE, () -> x.lengthThen(2, 1));
        promise = 37;
        due("ac", then(x, 0, 2));
        due("abc", then(x, 0, 3));
        due("zabc", then(x, 0, 4));
        refused(x, BOUNDS, () -> x.signThen(5, 0, 0));
        refused(x, NONE, () -> x.signThen(0, 5, 0));
        refused(x, NONE, () -> x.signThen(0, -1, 0));
        refused(x, NONE, () -> x.signThen(0, 2, 2));
        refused(x, NONE, () -> x.signThen(0, 2, -1));
        refused(x, NONE, () -> x.signThen(0, 0, 0));
        // behind 0 steps since forget() is what was there then
        meetAll(x);
        due(0, x.forget());
        promise = 35;
        due(0, x.steps(0));
        promise = 36;
        due(4, x.lengthThen(3, 0));
        refused(x, NONE, () -> x.lengthThen(3, 1));
        put(x, 3, 0, "!");
        due(5, x.lengthThen(3, 1));
        promise = 37;
        due("zabc", then(x, 3, 0));
        due("!zabc", then(x, 3, 1));
    }

    static void comparing() {
        promise = 38;
        Manypens x = start("abc");
        due(0, x.differ(0, 1));
        put(x, 0, 1, "xy");
        due(2, x.differ(0, 1));
        due(2, x.differ(1, 0));
        x.take(1, 0, 1);
        put(x, 1, 0, "x");
        due(4, x.differ(0, 1));
        due(0, x.differ(1, 1));
        refused(x, BOUNDS, () -> x.differ(5, 0));
        refused(x, BOUNDS, () -> x.differ(0, -1));
        promise = 39;
        due(true, x.isAlike(2, 3));
        due(true, x.isAlike(0, 0));
        due(false, x.isAlike(0, 2));
        refused(x, BOUNDS, () -> x.isAlike(5, 0));
        refused(x, BOUNDS, () -> x.isAlike(0, 5));
        // like signs, but other letters
        Manypens y = new Manypens();
        put(y, 0, 0, "a");
        put(y, 1, 0, "a");
        due(false, y.isAlike(0, 1));
        due(2, y.differ(0, 1));
        Manypens z = start("ab");
        z.mark(0, 0, 1, 'b', true, true);
        due(false, z.isAlike(0, 1));
        z.undo(0);
        due(true, z.isAlike(0, 1));
        z.comment(0, 0, 1, 3);
        due(false, z.isAlike(0, 1));
        due(false, z.isAlike(1, 0));
        z.undo(0);
        due(true, z.isAlike(0, 1));
        z.mark(0, 1, 1, 'i', false, true);
        due(true, z.isAlike(0, 1));
    }

    static void forgetting() {
        promise = 40;
        Manypens x = start("abcdef");
        x.take(0, 1, 2);
        refused(x, STATE, () -> x.forget());
        x.meet(0, 4);
        refused(x, STATE, () -> x.forget());
        meetAll(x);
        x.setCursor(2, 3);
        x.open(0);
        x.take(0, 2, 1);
        x.open(1);
        refused(x, STATE, () -> x.forget());
        meetAll(x);
        due(2, x.cursor(2));
        promise = 41;
        due(6, x.kept(0));
        due(6, x.kept(4));
        promise = 40;
        due(3, x.forget());
        promise = 41;
        due(3, x.kept(0));
        due(3, x.kept(4));
        refused(x, BOUNDS, () -> x.kept(5));
        refused(x, BOUNDS, () -> x.kept(-1));
        promise = 40;
        due("adf", text(x, 3));
        due(2, x.cursor(2));
        due(0, x.forget());
        // groups are closed, and none can be undone
        refused(x, STATE, () -> x.close(0));
        refused(x, STATE, () -> x.close(1));
        refused(x, NONE, () -> x.undo(0));
        due(0, x.groups(0, false));
        due(3, x.heard(1, 0));
        // numbers and times stay
        put(x, 1, 1, "X");
        due("aXdf", text(x, 1));
        due(101, x.birth(1, 1));
        due(3, x.leans(1, 1, 0));
        due((1 + 4 + 1 + 1) / 4.0, x.meanTime(1));
        due(1, x.undo(1));
        due("adf", text(x, 1));
        due(5, x.onWay(4));
        due('k', x.deliver(4, 0));
        // the cursor goes behind the last seen one ahead
        Manypens y = start("abcd");
        y.setCursor(1, 3);
        y.setCursor(2, 1);
        y.setCursor(3, 4);
        y.take(0, 1, 2);
        y.take(0, 0, 1);
        y.undo(0);
        meetAll(y);
        y.forget();
        due(1, y.cursor(1));
        due(1, y.cursor(2));
        due(2, y.cursor(3));
        put(y, 1, 1, "n");
        due(1, y.cursor(1));
        due("and", text(y, 1));
        Manypens z = start("abc");
        z.setCursor(0, 1);
        z.take(0, 0, 2);
        meetAll(z);
        due(2, z.forget());
        due(0, z.cursor(0));
        put(z, 0, 0, "q");
        due(0, z.cursor(0));
        due(true, z.isTrue());
        Manypens w = start("abc");
        w.undo(0);
        meetAll(w);
        due(1, w.groups(0, true));
        due(3, w.forget());
        refused(w, NONE, () -> w.redo(0));
        due(0, w.groups(0, true));
        due(0, w.kept(0));
        // new letters come right behind what they are put behind
        Manypens v = start("abc");
        put(v, 1, 1, "x");
        meetAll(v);
        v.forget();
        put(v, 1, 1, "1");
        put(v, 2, 1, "2");
        put(v, 3, 0, "3");
        put(v, 4, 4, "4");
        meetAll(v);
        due("3a21xbc4", text(v, 0));
        due(true, v.isTrue());
    }

    static void forgettingMarks() {
        promise = 40;
        // the first letter goes: the mark begins at the next one that is left
        Manypens x = start("abcdef");
        x.mark(0, 1, 3, 'b', true, false);
        x.comment(0, 1, 2, 9);
        x.take(0, 1, 1);
        meetAll(x);
        x.forget();
        due("01100", marks(x, 1, 'b'));
        put(x, 1, 1, "n");
        due("001100", marks(x, 1, 'b'));
        due(2, x.commentAt(1, 0, 'f'));
        due(2, x.commentAt(1, 0, 'l'));
        // the last one goes: it goes on up to the next one that is left, without that
        Manypens y = start("abcdef");
        y.mark(0, 1, 3, 'b', true, false);
        y.comment(0, 4, 2, 9);
        y.mark(0, 4, 2, 'i', true, false);
        y.take(0, 3, 1);
        y.take(0, 4, 1);
        meetAll(y);
        y.forget();
        due("abce", text(y, 2));
        due("0110", marks(y, 2, 'b'));
        put(y, 2, 3, "n");
        put(y, 2, 5, "m");
        due("abcnem", text(y, 2));
        due("011100", marks(y, 2, 'b'));
        due("000011", marks(y, 2, 'i'));
        due(5, y.commentAt(2, 0, 'l'));
        // up to a letter that goes
        Manypens z = start("abcdef");
        z.mark(0, 1, 2, 'b', true, true);
        z.mark(0, 4, 1, 'i', true, true);
        z.take(0, 3, 1);
        z.take(0, 4, 1);
        meetAll(z);
        z.forget();
        due("abce", text(z, 0));
        put(z, 0, 3, "n");
        put(z, 0, 5, "m");
        due("011100", marks(z, 0, 'b'));
        due("000011", marks(z, 0, 'i'));
        // all of its letters go: none is left, nor does what comes there have it
        Manypens w = start("abc");
        w.mark(0, 1, 1, 'b', true, true);
        w.mark(0, 2, 1, 'i', true, true);
        w.comment(0, 1, 2, 1);
        w.take(0, 1, 2);
        meetAll(w);
        w.forget();
        put(w, 0, 1, "n");
        due("00", marks(w, 0, 'b'));
        due("00", marks(w, 0, 'i'));
        due(0, w.comments(0));
        meetAll(w);
        due(0, w.forget());
        put(w, 0, 2, "m");
        due("000", marks(w, 0, 'b'));
        due("000", marks(w, 0, 'i'));
        due(true, w.isTrue());
    }

    static void figures() {
        promise = 42;
        Manypens x = new Manypens();
        refused(x, BOUNDS, () -> x.othersShare(5));
        refused(x, ARITHMETIC, () -> x.othersShare(0));
        put(x, 0, 0, "ab");
        due(0f, x.othersShare(0));
        x.meet(0, 1);
        due(1f, x.othersShare(1));
        put(x, 1, 2, "c");
        due(2f / 3f, x.othersShare(1));
        promise = 43;
        refused(x, BOUNDS, () -> x.meanTime(-1));
        refused(x, ARITHMETIC, () -> x.meanTime(4));
        due(1.0, x.meanTime(0));
        due(4.0 / 3.0, x.meanTime(1));
        x.take(1, 0, 2);
        due(2.0, x.meanTime(1));
        x.take(1, 0, 1);
        refused(x, ARITHMETIC, () -> x.meanTime(1));
        promise = 42;
        refused(x, ARITHMETIC, () -> x.othersShare(1));
    }

    static void checksum() {
        promise = 44;
        Manypens x = new Manypens();
        long empty = 7;
        for (int i = 0; i < 5 * 7; i++) {
            empty = 31 * empty;
        }
        due(empty, x.checksum());
        typed(x, "A~");
        due(31 * (31 * empty + 'A') + '~', x.checksum());
        x.write(1);
        x.mark(1, 0, 2, 'i', true, true);
        x.mark(1, 1, 1, 'b', true, true);
        x.repeat(4, 0);
        x.deliver(2, 0);
        long[][] parts = {
            {0, 0, 0, 0, 0, 0, 3},
            {0, 3, 0, 0, 0, 'A', 2, '~', 3, 2, 0},
            {0, 1, 0, 0, 0, 'A', 0, '~', 0, 0, 2},
            {0, 0, 0, 0, 0, 0, 3},
            {0, 0, 0, 0, 0, 0, 4},
        };
        long want = 7;
        for (long[] hand : parts) {
            for (long part : hand) {
                want = 31 * want + part;
            }
        }
        due(want, x.checksum());
    }

    static void theorem() {
        promise = 45;
        Manypens x = new Manypens();
        due(true, x.isTrue());
        for (int round = 0; round < 3; round++) {
            for (int h = 0; h < 5; h++) {
                put(x, h, x.length(h) / 2, "abc");
                x.mark(h, 0, 2, h % 2 == 0 ? 'b' : 'i', h < 3, h % 3 == 0);
                x.comment(h, 1, 2, h);
                x.take(h, 1, 1);
            }
            String before = all(x);
            due(true, x.isTrue());
            due(before, all(x));
            x.undo(round);
            x.deliver(1, x.onWay(1) - 1);
            due(true, x.isTrue());
            meetAll(x);
            due(true, x.isTrue());
            due(true, x.isAlike(round, 4));
            if (round == 1) {
                x.forget();
                due(true, x.isTrue());
            }
        }
    }

    /** Five hands that move the same letters at once make five times as many of them. */
    static void crowd() {
        promise = 7;
        Manypens x = start("abcdef");
        int most = 6;
        for (int round = 0; round < 10; round++) {
            for (int h = 0; h < 5; h++) {
                due(0, x.move(h, 0, x.length(h), 0));
            }
            meetAll(x);
            most *= 5;
            due(most, x.length(round % 5));
            due("cde", "" + x.signAt(1, 2) + x.signAt(2, most / 2) + x.signAt(3, most - 2));
            due(true, x.isTrue());
            x.mark(0, 0, x.length(0), 'b', round % 2 == 0, true);
            due(1, x.runs(0));
            x.undo(0);
        }
        due(6 * 9765625, most);
    }

    /** Hands 0 and 1 both move all that they see, to its begin, so often, and hear of that. */
    static void doubleText(Manypens x, int often) {
        for (int i = 0; i < often; i++) {
            due(0, x.move(0, 0, x.length(0), 0));
            due(0, x.move(1, 0, x.length(1), 0));
            due(2, x.meet(0, 1));
        }
    }

    /** More letters than an array could hold at ease: all calls answer as they do for a few. */
    static void multitude() {
        Manypens x = start("abcde");
        doubleText(x, 16);
        int all = 5 << 16;
        promise = 16;
        due(all, x.length(0));
        due(all, x.length(1));
        due(5, x.length(2));
        promise = 17;
        for (int i = 0; i < all; i += 997) {
            due((char) ('a' + i % 5), x.signAt(0, i));
        }
        due('e', x.signAt(1, all - 1));
        refused(x, NONE, () -> x.signAt(0, all));
        promise = 18;
        due(116, x.birth(0, all / 2 - 1));
        due(17, x.birth(0, all / 2));
        promise = 41;
        due(5 * ((1 << 17) - 1), x.kept(0));
        promise = 42;
        due(0.5f, x.othersShare(0));
        due(1f, x.othersShare(4));
        promise = 43;
        due(17.0, x.meanTime(1));
        promise = 44;
        dueSum(x);

        promise = 8;
        due(18, x.mark(0, 99999, 100001, 'i', true, true));
        promise = 19;
        due("0110", "" + bit(x, 99998) + bit(x, 99999) + bit(x, 199999) + bit(x, 200000));
        promise = 20;
        due(3, x.runs(0));
        promise = 9;
        due(19, x.comment(0, 7, all - 14, 4));
        promise = 22;
        due(7, x.commentAt(0, 0, 'f'));
        due(all - 8, x.commentAt(0, 0, 'l'));
        promise = 23;
        due(0, x.setCursor(0, 150000));
        promise = 24;
        due(150000, x.cursor(0));
        promise = 44;
        dueSum(x);

        promise = 5;
        due(all - 150000, x.take(0, 50000, 150000));
        due(50000, x.cursor(0));
        due("00", "" + bit(x, 49999) + bit(x, 50000));
        due(all, x.length(1));
        promise = 22;
        due(all - 150008, x.commentAt(0, 0, 'l'));
        promise = 38;
        due(150000, x.differ(1, 0));
        due(all - 150000 + 5, x.differ(0, 2));
        promise = 39;
        due(false, x.isAlike(0, 1));
        promise = 6;
        typed(x, "123456789012");
        refused(x, STATE, () -> x.put(0, 0));
        refused(x, STATE, () -> x.write(0));
        refused(x, STATE, () -> x.replace(0, 0, all - 150049));
        due(60, x.replace(0, 20, all - 150048));
        due("abcdeabcdeabcdeabcde123456789012cdeabcdeabcdeabcdeabcdeabcde", text(x, 0));
        due(32, x.cursor(0));
        promise = 13;
        due(1, x.undo(0));
        due(all - 150000, x.length(0));
        due(1, x.undo(0));
        due(all, x.length(0));
        due(150000, x.cursor(0));
        promise = 14;
        due(1, x.redo(0));
        due(all - 150000, x.length(0));
        promise = 36;
        due(all - 150000, x.lengthThen(0, x.steps(0)));
        due(60, x.lengthThen(0, x.steps(0) - 3));
        due(all / 2, x.lengthThen(1, x.steps(1) - 2));
        promise = 37;
        due('c', x.signThen(1, x.steps(1), 100002));
        refused(x, NONE, () -> x.signThen(1, x.steps(1), all));
        promise = 45;
        due(true, x.isTrue());

        promise = 7;
        due(-70001, x.move(1, 100003, 40000, 30002));
        due("abde", "" + x.signAt(1, 30000) + x.signAt(1, 30001) + x.signAt(1, 30002) + x.signAt(1, 30003));
        due("cc", "" + x.signAt(1, 70001) + x.signAt(1, 70002));
        due("116,117,117,116", x.birth(1, 30001) + "," + x.birth(1, 30002) + "," + x.birth(1, 70001) + "," + x.birth(1, 70002));
        meetAll(x);
        // the moved ones that hand 0 took stay away, those that were put anew stay
        due(all - 150000 + 40000, x.length(3));
        due(true, x.isAlike(0, 3));
        promise = 44;
        dueSum(x);
        promise = 40;
        due(x.kept(2) - x.length(2), x.forget());
        due(all - 110000, x.kept(4));
        due(true, x.isTrue());
        dueSum(x);
        refused(x, NONE, () -> x.undo(0));
        due(all - 110001, x.take(4, 60000, 1));
        due(90000, x.cursor(0));
    }

    static int bit(Manypens x, int place) {
        return x.isMarked(0, place, 'i') ? 1 : 0;
    }

    /** The sum of all, letter by letter. */
    static void dueSum(Manypens x) {
        long sum = 7;
        for (int h = 0; h < 5; h++) {
            for (int of = 0; of < 5; of++) {
                sum = 31 * sum + x.heard(h, of);
            }
            for (int i = 0; i < x.length(h); i++) {
                sum = 31 * sum + x.signAt(h, i);
                sum = 31 * sum + (x.isMarked(h, i, 'b') ? 1 : 0) + (x.isMarked(h, i, 'i') ? 2 : 0);
            }
            sum = 31 * (31 * sum + x.cursor(h)) + x.onWay(h);
        }
        due(sum, x.checksum());
    }

    /** As many letters as no int can tell: what an int can't tell is told as the greatest one. */
    static void beyondInts() {
        int most = Integer.MAX_VALUE;
        Manypens x = start("abc");
        doubleText(x, 30);
        promise = 16;
        due(most, x.length(0));
        promise = 17;
        due((char) ('a' + most % 3), x.signAt(0, most));
        refused(x, NONE, () -> x.signAt(0, -1));
        promise = 18;
        due(130, x.birth(0, 0));
        due(31, x.birth(0, most));
        promise = 44;
        dueSumOfDoubled(x, 30);
        promise = 23;
        due(0, x.setCursor(0, most));
        promise = 24;
        due(most, x.cursor(0));
        promise = 8;
        due(32, x.mark(0, 1, most, 'b', true, false));
        promise = 19;
        due(false, x.isMarked(0, 0, 'b'));
        due(true, x.isMarked(0, 1, 'b'));
        due(true, x.isMarked(0, most, 'b'));
        promise = 20;
        due(3, x.runs(0));
        promise = 5;
        due(1073741825, x.take(0, 0, most));
        due(0, x.cursor(0));
        due(true, x.isMarked(0, 0, 'b'));
        due(false, x.isMarked(0, 1, 'b'));
        refused(x, NONE, () -> x.take(0, 0, 1073741826));
        promise = 38;
        due(most, x.differ(0, 1));
        due(1073741825 + 3, x.differ(0, 2));
        promise = 13;
        due(1, x.undo(0));
        due(most, x.length(0));
        promise = 7;
        due(999999995, x.move(0, 5, most, 1000000000));
        refused(x, NONE, () -> x.move(0, 5, most, 1073741826));
        refused(x, NONE, () -> x.move(0, 5, most, -1));
        due(35, x.birth(0, 1000000000));
        due("bc", "" + x.signAt(0, 999999999) + x.signAt(0, 1000000000));
        promise = 43;
        due((31.0 * 1073741825.0 + 35.0 * most) / 3221225472.0, x.meanTime(0));
        promise = 42;
        due(5f / 3221225472f, x.othersShare(0));
        promise = 45;
        due(true, x.isTrue());
        meetAll(x);
        due(true, x.isTrue());
        promise = 40;
        due(most, x.forget());
        due(most, x.length(4));
        due(true, x.isTrue());
        due(1073741825, x.take(4, 0, most));
        promise = 41;
        due(most, x.kept(4));
    }

    /** For hands 0 and 1 of beyondInts(), who see "abc" over and over; the other ones see it once. */
    static void dueSumOfDoubled(Manypens x, int often) {
        long times = 1;
        long more = 0;
        for (char c : "abc".toCharArray()) {
            more = 31 * (31 * more + c);
            times *= 31 * 31;
        }
        long oneTimes = times;
        long oneMore = more;
        for (int i = 0; i < often; i++) {
            more = more * times + more;
            times *= times;
        }
        long sum = 7;
        for (int h = 0; h < 5; h++) {
            for (int of = 0; of < 5; of++) {
                sum = 31 * sum + x.heard(h, of);
            }
            sum = h < 2 ? sum * times + more : sum * oneTimes + oneMore;
            sum = 31 * (31 * sum + x.cursor(h)) + x.onWay(h);
        }
        due(sum, x.checksum());
    }
}
