import java.util.ArrayDeque;
import java.util.ArrayList;
import java.util.Collections;
import java.util.HashMap;
import java.util.LinkedHashSet;
import java.util.HashSet;
import java.util.List;
import java.util.Map;
import java.util.NoSuchElementException;
import java.util.Random;
import java.util.Set;

/**
 * Long runs of drawn calls (of fixed seeds) on Manypens and on a plain model of the document that
 * keeps sets of edits and builds each row from its tree anew for each answer.
 */
public final class FuzzTest {

    // ---- the model

    static final class Letter {
        PEdit maker;
        char sign;
        Letter parent;
    }

    static final class PEdit {
        int hand, number, time;
        Set<PEdit> leans;
        List<Letter> letters = new ArrayList<>();
        List<Letter> taken = new ArrayList<>();
        PGroup group;
        PGroup off, on;
        char kind;
        boolean isOn;
        boolean isComment;
        int code;
        boolean isDead, isToEnd, isUpTo;
        Letter from, to;

        int label() {
            return hand * 100 + number;
        }
    }

    static final class PGroup {
        List<PEdit> edits = new ArrayList<>();
    }

    static final class PHand {
        LinkedHashSet<PEdit> heard = new LinkedHashSet<>();
        List<PEdit> steps = new ArrayList<>();
        List<PEdit> way = new ArrayList<>();
        Set<PEdit> waits = new HashSet<>();
        List<PGroup> groups = new ArrayList<>();
        Set<PGroup> undone = new HashSet<>();
        List<PGroup> again = new ArrayList<>();
        PGroup open;
        Letter cursor;
        int made;
    }

    static final class Pens {
        final List<Character> typed = new ArrayList<>();
        final PHand[] hands = new PHand[5];
        final List<PEdit> edits = new ArrayList<>();
        List<Letter> base = new ArrayList<>();
        Set<PEdit> baseHeard = new LinkedHashSet<>();

        Pens() {
            for (int i = 0; i < 5; i++) {
                hands[i] = new PHand();
            }
        }

        // the row of those who heard these, by the tree
        List<Letter> row(Set<PEdit> heard) {
            Map<Letter, List<Letter>> kids = new HashMap<>();
            for (PEdit e : heard) {
                if (baseHeard.contains(e)) {
                    continue;
                }
                for (Letter l : e.letters) {
                    kids.computeIfAbsent(l.parent, k -> new ArrayList<>()).add(l);
                }
            }
            for (List<Letter> list : kids.values()) {
                list.sort((a, b) -> a.maker.time != b.maker.time ? b.maker.time - a.maker.time : b.maker.hand - a.maker.hand);
            }
            List<Letter> row = new ArrayList<>();
            walk(null, kids, row);
            for (Letter l : base) {
                row.add(l);
                walk(l, kids, row);
            }
            return row;
        }

        // a chain of letters can be too long for a call in a call
        void walk(Letter at, Map<Letter, List<Letter>> kids, List<Letter> row) {
            ArrayDeque<Letter> rest = new ArrayDeque<>();
            pushAll(kids.get(at), rest);
            while (!rest.isEmpty()) {
                Letter l = rest.pop();
                row.add(l);
                pushAll(kids.get(l), rest);
            }
        }

        void pushAll(List<Letter> list, ArrayDeque<Letter> rest) {
            for (int i = list == null ? -1 : list.size() - 1; i >= 0; i--) {
                rest.push(list.get(i));
            }
        }

        Map<Letter, Integer> positions(Set<PEdit> heard) {
            Map<Letter, Integer> at = new HashMap<>();
            for (Letter l : row(heard)) {
                at.put(l, at.size());
            }
            return at;
        }

        Set<PEdit> force(Iterable<PEdit> heardInOrder) {
            Set<PGroup> off = new HashSet<>();
            List<PEdit> all = new ArrayList<>();
            for (PEdit e : heardInOrder) {
                all.add(e);
                if (e.off != null) {
                    off.add(e.off);
                }
                if (e.on != null) {
                    off.remove(e.on);
                }
            }
            Set<PEdit> force = new HashSet<>();
            for (PEdit e : all) {
                if (e.group != null && !off.contains(e.group)) {
                    force.add(e);
                }
            }
            return force;
        }

        List<Letter> text(Set<PEdit> heard) {
            Set<PEdit> force = force(heard);
            Set<Letter> gone = new HashSet<>();
            for (PEdit e : force) {
                gone.addAll(e.taken);
            }
            List<Letter> text = new ArrayList<>();
            for (Letter l : row(heard)) {
                if (force.contains(l.maker) && !gone.contains(l)) {
                    text.add(l);
                }
            }
            return text;
        }

        boolean covers(PEdit e, Letter l, Map<Letter, Integer> at) {
            if (e.isDead) {
                return false;
            }
            int p = at.get(l);
            if (p < at.get(e.from)) {
                return false;
            }
            if (e.isToEnd) {
                return true;
            }
            int to = at.get(e.to);
            return e.isUpTo ? p < to : p <= to;
        }

        /** Of each letter 1 if it has the mark 'b', and 2 if 'i'. */
        List<Integer> marks(Set<PEdit> heard, List<Letter> letters) {
            Map<Letter, Integer> at = positions(heard);
            Set<PEdit> force = force(heard);
            List<Integer> marks = new ArrayList<>();
            for (Letter l : letters) {
                marks.add((isMarked(force, l, 'b', at) ? 1 : 0) + (isMarked(force, l, 'i', at) ? 2 : 0));
            }
            return marks;
        }

        boolean isMarked(Set<PEdit> force, Letter l, char kind, Map<Letter, Integer> at) {
            PEdit best = null;
            for (PEdit e : force) {
                if (e.kind == kind && covers(e, l, at)) {
                    if (best == null || e.time > best.time || e.time == best.time && e.hand > best.hand) {
                        best = e;
                    }
                }
            }
            return best != null && best.isOn;
        }

        /** {number, first, last, code} of each comment, in their order. */
        List<int[]> hung(Set<PEdit> heard) {
            Map<Letter, Integer> row = positions(heard);
            List<Letter> text = text(heard);
            List<int[]> list = new ArrayList<>();
            for (PEdit e : force(heard)) {
                if (!e.isComment) {
                    continue;
                }
                int first = -1, last = -1;
                for (int i = 0; i < text.size(); i++) {
                    if (covers(e, text.get(i), row)) {
                        first = first < 0 ? i : first;
                        last = i;
                    }
                }
                if (first >= 0) {
                    list.add(new int[] {e.label(), first, last, e.code});
                }
            }
            list.sort((a, b) -> a[1] != b[1] ? a[1] - b[1] : a[0] - b[0]);
            return list;
        }

        int place(PHand h) {
            if (h.cursor == null) {
                return 0;
            }
            Set<Letter> text = new HashSet<>(text(h.heard));
            int many = 0;
            for (Letter l : row(h.heard)) {
                if (text.contains(l)) {
                    many++;
                }
                if (l == h.cursor) {
                    break;
                }
            }
            return many;
        }

        void hear(PHand h, PEdit e) {
            h.heard.add(e);
            h.steps.add(e);
            h.waits.remove(e);
        }

        int hearMore(PHand h, PEdit e) {
            hear(h, e);
            int n = 1;
            while (true) {
                PEdit next = null;
                for (PEdit w : h.waits) {
                    if (h.heard.containsAll(w.leans) && (next == null || w.label() < next.label())) {
                        next = w;
                    }
                }
                if (next == null) {
                    return n;
                }
                hear(h, next);
                n++;
            }
        }

        PEdit make(int hand) {
            PHand h = hands[hand];
            PEdit e = new PEdit();
            e.hand = hand;
            e.number = ++h.made;
            e.time = 1;
            for (PEdit o : h.heard) {
                e.time = Math.max(e.time, o.time + 1);
            }
            e.leans = new HashSet<>(h.heard);
            return e;
        }

        void change(PEdit e) {
            PHand h = hands[e.hand];
            h.again.clear();
            if (h.open == null) {
                e.group = new PGroup();
                h.groups.add(e.group);
            } else {
                e.group = h.open;
                if (h.open.edits.isEmpty()) {
                    h.groups.add(h.open);
                }
            }
            e.group.edits.add(e);
            send(e);
        }

        void send(PEdit e) {
            edits.add(e);
            for (int i = 0; i < 5; i++) {
                if (i == e.hand) {
                    hear(hands[i], e);
                } else {
                    hands[i].way.add(e);
                }
            }
        }

        void addLetters(PEdit e, Letter parent, List<Character> signs) {
            for (char c : signs) {
                Letter l = new Letter();
                l.maker = e;
                l.sign = c;
                l.parent = parent;
                e.letters.add(l);
                parent = l;
            }
        }

        int undoable(PHand h) {
            int n = 0;
            for (PGroup g : h.groups) {
                if (!h.undone.contains(g)) {
                    n++;
                }
            }
            return n;
        }

        // ---- the calls

        Object call(String name, int[] a) {
            switch (name) {
                case "type":
                    if (a[0] < 32 || a[0] > 126) throw new IllegalArgumentException();
                    if (typed.size() == 12) throw new IllegalStateException();
                    typed.add((char) a[0]);
                    return typed.size();
                case "erase": {
                    int n = typed.size();
                    typed.clear();
                    return n;
                }
                case "forget":
                    return forget();
                case "checksum":
                    return checksum();
                case "isTrue":
                    return true;
                default:
            }
            hand(a[0]);
            PHand h = hands[a[0]];
            switch (name) {
                case "meet": case "lacks": case "heard": case "differ": case "isAlike":
                    hand(a[1]);
                    return two(name, a[0], a[1]);
                case "leans":
                    hand(a[2]);
                    for (PEdit e : edits) {
                        if (e.hand == a[0] && e.number == a[1]) {
                            int n = 0;
                            for (PEdit o : e.leans) {
                                n += o.hand == a[2] ? 1 : 0;
                            }
                            return n;
                        }
                    }
                    throw new NoSuchElementException();
                case "open":
                    if (h.open != null) throw new IllegalStateException();
                    h.open = new PGroup();
                    return undoable(h);
                case "close": {
                    if (h.open == null) throw new IllegalStateException();
                    int n = h.open.edits.size();
                    h.open = null;
                    return n;
                }
                case "undo": {
                    PGroup last = null;
                    for (PGroup g : h.groups) {
                        last = h.undone.contains(g) ? last : g;
                    }
                    if (last == null) throw new NoSuchElementException();
                    if (h.made == 40) throw new IllegalStateException();
                    h.open = null;
                    h.undone.add(last);
                    h.again.add(last);
                    PEdit e = make(a[0]);
                    e.off = last;
                    send(e);
                    return last.edits.size();
                }
                case "redo": {
                    if (h.again.isEmpty()) throw new NoSuchElementException();
                    if (h.made == 40) throw new IllegalStateException();
                    h.open = null;
                    PGroup g = h.again.remove(h.again.size() - 1);
                    h.undone.remove(g);
                    PEdit e = make(a[0]);
                    e.on = g;
                    send(e);
                    return g.edits.size();
                }
                case "groups":
                    return a[1] == 1 ? h.again.size() : undoable(h);
                case "onWay":
                    return h.way.size();
                case "wayAt":
                    onWay(h, a[1]);
                    return h.way.get(a[1]).label();
                case "deliver": {
                    onWay(h, a[1]);
                    PEdit e = h.way.remove(a[1]);
                    if (h.heard.contains(e) || h.waits.contains(e)) return 'k';
                    if (!h.heard.containsAll(e.leans)) {
                        h.waits.add(e);
                        return 'w';
                    }
                    hearMore(h, e);
                    return 'h';
                }
                case "repeat":
                    onWay(h, a[1]);
                    if (h.way.size() >= 200) throw new IllegalStateException();
                    h.way.add(h.way.get(a[1]));
                    return h.way.size();
                case "lose":
                    onWay(h, a[1]);
                    h.way.remove(a[1]);
                    return h.way.size();
                case "waiting":
                    return h.waits.size();
                case "steps":
                    return h.steps.size();
                case "kept":
                    return row(h.heard).size();
                case "lengthThen":
                case "signThen": {
                    if (a[1] < 0 || a[1] > h.steps.size()) throw new NoSuchElementException();
                    Set<PEdit> then = new LinkedHashSet<>(baseHeard);
                    then.addAll(h.steps.subList(0, a[1]));
                    List<Letter> text = text(then);
                    if (name.equals("lengthThen")) return text.size();
                    letters(text, a[2], 1);
                    return text.get(a[2]).sign;
                }
                default:
                    return onText(name, a, h, text(h.heard));
            }
        }

        Object onText(String name, int[] a, PHand h, List<Letter> text) {
            switch (name) {
                case "put":
                    place(a[1], text.size());
                    needTyped();
                    room(text.size() + typed.size(), h);
                    put(a[0], a[1], 0, text);
                    return text(h.heard).size();
                case "write": {
                    needTyped();
                    room(text.size() + typed.size(), h);
                    PEdit e = put(a[0], place(h), 0, text);
                    h.cursor = e.letters.get(e.letters.size() - 1);
                    return place(h);
                }
                case "take": {
                    letters(text, a[1], a[2]);
                    room(0, h);
                    PEdit e = make(a[0]);
                    e.taken.addAll(text.subList(a[1], a[1] + a[2]));
                    change(e);
                    return text(h.heard).size();
                }
                case "replace":
                    letters(text, a[1], a[2]);
                    needTyped();
                    room(text.size() - a[2] + typed.size(), h);
                    put(a[0], a[1], a[2], text);
                    return text(h.heard).size();
                case "move": {
                    letters(text, a[1], a[2]);
                    place(a[3], text.size() - a[2]);
                    room(0, h);
                    PEdit e = make(a[0]);
                    e.taken.addAll(text.subList(a[1], a[1] + a[2]));
                    List<Letter> rest = new ArrayList<>(text.subList(0, a[1]));
                    rest.addAll(text.subList(a[1] + a[2], text.size()));
                    List<Character> signs = new ArrayList<>();
                    for (Letter l : e.taken) {
                        signs.add(l.sign);
                    }
                    addLetters(e, a[3] == 0 ? null : rest.get(a[3] - 1), signs);
                    change(e);
                    return text(h.heard).indexOf(e.letters.get(0)) - a[1];
                }
                case "mark": {
                    kind(a[3]);
                    letters(text, a[1], a[2]);
                    room(0, h);
                    PEdit e = make(a[0]);
                    e.kind = (char) a[3];
                    e.isOn = a[4] == 1;
                    e.from = text.get(a[1]);
                    e.to = text.get(a[1] + a[2] - 1);
                    if (a[5] == 1) {
                        e.isUpTo = true;
                        e.isToEnd = a[1] + a[2] == text.size();
                        e.to = e.isToEnd ? null : text.get(a[1] + a[2]);
                    }
                    change(e);
                    return e.number;
                }
                case "comment": {
                    letters(text, a[1], a[2]);
                    room(0, h);
                    PEdit e = make(a[0]);
                    e.isComment = true;
                    e.code = a[3];
                    e.from = text.get(a[1]);
                    e.to = text.get(a[1] + a[2] - 1);
                    change(e);
                    return e.label();
                }
                case "length":
                    return text.size();
                case "signAt":
                    letters(text, a[1], 1);
                    return text.get(a[1]).sign;
                case "birth":
                    letters(text, a[1], 1);
                    return text.get(a[1]).maker.label();
                case "isMarked":
                    kind(a[2]);
                    letters(text, a[1], 1);
                    return (marks(h.heard, text.subList(a[1], a[1] + 1)).get(0) & (a[2] == 'b' ? 1 : 2)) != 0;
                case "runs": {
                    int n = 0;
                    int last = -1;
                    for (int m : marks(h.heard, text)) {
                        n += m != last ? 1 : 0;
                        last = m;
                    }
                    return n;
                }
                case "comments":
                    return hung(h.heard).size();
                case "commentAt": {
                    List<int[]> hung = hung(h.heard);
                    if (a[1] < 0 || a[1] >= hung.size()) throw new NoSuchElementException();
                    int what = "nflc".indexOf(a[2]);
                    if (what < 0) throw new IllegalArgumentException();
                    return hung.get(a[1])[what];
                }
                case "setCursor": {
                    place(a[1], text.size());
                    int old = place(h);
                    h.cursor = a[1] == 0 ? null : text.get(a[1] - 1);
                    return old;
                }
                case "cursor":
                    return place(h);
                case "othersShare": {
                    if (text.isEmpty()) throw new ArithmeticException();
                    int n = 0;
                    for (Letter l : text) {
                        n += l.maker.hand != a[0] ? 1 : 0;
                    }
                    return (float) n / (float) text.size();
                }
                case "meanTime": {
                    if (text.isEmpty()) throw new ArithmeticException();
                    int n = 0;
                    for (Letter l : text) {
                        n += l.maker.time;
                    }
                    return (double) n / (double) text.size();
                }
                default:
                    throw new Error(name);
            }
        }

        PEdit put(int hand, int place, int many, List<Letter> text) {
            PEdit e = make(hand);
            e.taken.addAll(text.subList(place, place + many));
            addLetters(e, place == 0 ? null : text.get(place - 1), typed);
            typed.clear();
            change(e);
            return e;
        }

        Object two(String name, int one, int other) {
            PHand a = hands[one], b = hands[other];
            switch (name) {
                case "meet": {
                    if (one == other) throw new IllegalArgumentException();
                    List<PEdit> forA = missing(b, a), forB = missing(a, b);
                    return hearAll(a, forA) + hearAll(b, forB);
                }
                case "lacks":
                    return missing(a, b).size();
                case "heard": {
                    int n = 0;
                    for (PEdit e : a.heard) {
                        n += e.hand == other ? 1 : 0;
                    }
                    return n;
                }
                case "differ": {
                    Set<Letter> x = new HashSet<>(text(a.heard)), y = new HashSet<>(text(b.heard));
                    Set<Letter> both = new HashSet<>(x);
                    both.retainAll(y);
                    return x.size() + y.size() - 2 * both.size();
                }
                default: {
                    List<Letter> x = text(a.heard), y = text(b.heard);
                    if (!x.equals(y)) return false;
                    if (!marks(a.heard, x).equals(marks(b.heard, y))) return false;
                    List<int[]> p = hung(a.heard), q = hung(b.heard);
                    if (p.size() != q.size()) return false;
                    for (int i = 0; i < p.size(); i++) {
                        if (!java.util.Arrays.equals(p.get(i), q.get(i))) return false;
                    }
                    return true;
                }
            }
        }

        List<PEdit> missing(PHand has, PHand lacks) {
            List<PEdit> list = new ArrayList<>(has.heard);
            list.removeIf(lacks.heard::contains);
            list.sort((x, y) -> x.time != y.time ? x.time - y.time : x.hand - y.hand);
            return list;
        }

        int hearAll(PHand h, List<PEdit> list) {
            int n = 0;
            for (PEdit e : list) {
                n += h.heard.contains(e) ? 0 : hearMore(h, e);
            }
            return n;
        }

        int forget() {
            for (PHand h : hands) {
                if (h.heard.size() != edits.size()) throw new IllegalStateException();
            }
            List<Letter> row = row(hands[0].heard);
            List<Letter> seen = text(hands[0].heard);
            Set<Letter> text = new HashSet<>(seen);
            for (PEdit e : edits) {
                if (e.kind == 0 && !e.isComment || e.isDead) {
                    continue;
                }
                Letter from = leftFrom(e.from, row, text);
                Letter to = e.isToEnd ? null : leftFrom(e.to, row, text);
                e.isDead = from == null;
                e.from = from;
                if (!e.isToEnd && to != e.to) {
                    e.isUpTo = true;
                    e.isToEnd = to == null;
                    e.to = to;
                }
            }
            for (PHand h : hands) {
                if (h.cursor != null && !text.contains(h.cursor)) {
                    int p = row.indexOf(h.cursor);
                    Letter last = null;
                    for (int i = 0; i < p; i++) {
                        last = text.contains(row.get(i)) ? row.get(i) : last;
                    }
                    h.cursor = last;
                }
                h.steps.clear();
                h.groups.clear();
                h.undone.clear();
                h.again.clear();
                h.open = null;
            }
            base = seen;
            baseHeard = new LinkedHashSet<>(hands[0].heard);
            return row.size() - text.size();
        }

        Letter leftFrom(Letter l, List<Letter> row, Set<Letter> text) {
            for (int i = row.indexOf(l); i < row.size(); i++) {
                if (text.contains(row.get(i))) {
                    return row.get(i);
                }
            }
            return null;
        }

        long checksum() {
            long s = 7;
            for (int i = 0; i < 5; i++) {
                for (int j = 0; j < 5; j++) {
                    s = 31 * s + (Integer) two("heard", i, j);
                }
                List<Letter> text = text(hands[i].heard);
                List<Integer> marks = marks(hands[i].heard, text);
                for (int k = 0; k < text.size(); k++) {
                    s = 31 * s + text.get(k).sign;
                    s = 31 * s + marks.get(k);
                }
                s = 31 * s + place(hands[i]);
                s = 31 * s + hands[i].way.size();
            }
            for (char c : typed) {
                s = 31 * s + c;
            }
            return s;
        }

        void hand(int hand) {
            if (hand < 0 || hand > 4) throw new IndexOutOfBoundsException();
        }

        void place(int place, int last) {
            if (place < 0 || place > last) throw new NoSuchElementException();
        }

        void letters(List<Letter> text, int place, int many) {
            if (many < 1 || place < 0 || (long) place + many > text.size()) throw new NoSuchElementException();
        }

        void kind(int kind) {
            if (kind != 'b' && kind != 'i') throw new IllegalArgumentException();
        }

        void needTyped() {
            if (typed.isEmpty()) throw new UnsupportedOperationException();
        }

        void room(int length, PHand h) {
            if (length > 60 || h.made == 40) throw new IllegalStateException();
        }

        void onWay(PHand h, int index) {
            if (index < 0 || index >= h.way.size()) throw new NoSuchElementException();
        }
    }

    // ---- the runs

    static final String[] ALL = {"type", "erase", "put", "take", "replace", "move", "mark", "comment", "write",
        "open", "close", "undo", "redo", "groups", "length", "signAt", "birth", "isMarked", "runs", "comments",
        "commentAt", "setCursor", "cursor", "onWay", "wayAt", "deliver", "repeat", "lose", "meet", "waiting", "lacks",
        "heard", "leans", "steps", "lengthThen", "signThen", "differ", "isAlike", "forget", "kept", "othersShare",
        "meanTime", "checksum", "isTrue"};
    static final String[] MAKING = {"type", "type", "type", "type", "type", "put", "put", "write", "take", "replace",
        "move", "mark", "mark", "comment", "undo", "redo", "undo", "open", "close", "setCursor", "deliver", "deliver",
        "deliver", "deliver", "deliver", "meet", "repeat", "lose", "mark", "comment"};

    /** The model makes each row anew for each answer, so its texts must not grow without end. */
    static final int MOST_CROWDED = 200;

    static int longest = 0;
    static Map<String, Integer> answered = new HashMap<>();
    static Map<String, Integer> refused = new HashMap<>();

    static int pick(Random r, int most) {
        int k = r.nextInt(40);
        if (k == 0) return -1;
        if (k == 1) return most + 1;
        if (k == 2) return r.nextBoolean() ? Integer.MAX_VALUE : Integer.MIN_VALUE;
        return most <= 0 ? 0 : r.nextInt(Math.min(most, 1000) + 1);
    }

    static int[] draw(Random r, String name, Pens m, int hands) {
        int hand = r.nextInt(60) == 0 ? (r.nextBoolean() ? -1 : 5) : r.nextInt(hands);
        int other = r.nextInt(60) == 0 ? (r.nextBoolean() ? -1 : 5) : r.nextInt(hands);
        PHand h = hand < 0 || hand > 4 ? null : m.hands[hand];
        int size = h == null ? 3 : m.text(h.heard).size();
        int place = pick(r, size);
        int left = size - place;
        int many = r.nextInt(3) == 0 ? pick(r, left) : Math.min(1 + r.nextInt(4), Math.max(1, left));
        char kind = r.nextInt(30) == 0 ? 'x' : r.nextBoolean() ? 'b' : 'i';
        int flag = r.nextInt(2);
        switch (name) {
            case "type": return new int[] {r.nextInt(50) == 0 ? 31 : r.nextInt(50) == 0 ? 127 : 32 + r.nextInt(95)};
            case "move": return new int[] {hand, place, many, pick(r, size - many)};
            case "mark": return new int[] {hand, place, many, kind, r.nextInt(3) > 0 ? 1 : 0, flag};
            case "comment": return new int[] {hand, place, many, r.nextInt()};
            case "take": case "replace": return new int[] {hand, place, many};
            case "groups": return new int[] {hand, flag};
            case "isMarked": return new int[] {hand, pick(r, size - 1), kind};
            case "commentAt": return new int[] {hand, pick(r, h == null ? 0 : m.hung(h.heard).size() - 1), "nflcx".charAt(r.nextInt(5))};
            case "wayAt": case "deliver": case "repeat": case "lose":
                return new int[] {hand, h == null ? 0 : pick(r, Math.min(h.way.size() - 1, r.nextInt(3) == 0 ? 200 : 1))};
            case "meet": case "lacks": case "heard": case "differ": case "isAlike": return new int[] {hand, other};
            case "leans": return new int[] {hand, pick(r, h == null ? 1 : h.made), other};
            case "lengthThen": return new int[] {hand, pick(r, h == null ? 0 : h.steps.size())};
            case "signThen": return new int[] {hand, pick(r, h == null ? 0 : h.steps.size()), pick(r, size)};
            default: return new int[] {hand, place, many};
        }
    }

    static String due(Pens model, String name, int[] a) {
        try {
            return String.valueOf(model.call(name, a));
        } catch (RuntimeException e) {
            return e.getClass().getSimpleName();
        }
    }

    static boolean check(List<String> log, Pens m, Manypens x, String name, int... a) {
        String want = due(m, name, a);
        String got = Calls.answer(x, name, a);
        log.add(name + java.util.Arrays.toString(a) + " = " + got);
        (want.endsWith("Exception") ? refused : answered).merge(name, 1, Integer::sum);
        if (!want.equals(got)) {
            System.out.println("wrong, due is " + want + ":");
            for (String line : log.subList(Math.max(0, log.size() - 60), log.size())) {
                System.out.println("  " + line);
            }
            return false;
        }
        return true;
    }

    /** Two hands that see the same move letters that they both see, or take them, and meet: moved ones multiply. */
    static boolean crowd(Random r, List<String> log, Pens m, Manypens x, int hands) {
        int one = r.nextInt(hands), other = (one + 1 + r.nextInt(hands - 1)) % hands;
        if (!check(log, m, x, "meet", one, other)) {
            return false;
        }
        int size = m.text(m.hands[one].heard).size();
        if (size == 0 || size > MOST_CROWDED) {
            return check(log, m, x, "take", one, 0, size / 2);
        }
        for (int hand : new int[] {one, other}) {
            int place = r.nextInt(3) == 0 ? r.nextInt(size) : 0;
            int many = r.nextInt(3) == 0 ? 1 + r.nextInt(size - place) : size - place;
            int[] a = {hand, place, many, r.nextInt(size - many + 1)};
            if (!check(log, m, x, r.nextInt(12) == 0 ? "take" : "move", a)) {
                return false;
            }
        }
        return check(log, m, x, "meet", other, one) && check(log, m, x, "isAlike", other, one);
    }

    /** A hand makes a group of some edits, and undoes and does again what it can. */
    static boolean turn(Random r, List<String> log, Pens m, Manypens x, int hands) {
        int hand = r.nextInt(hands);
        boolean good = check(log, m, x, r.nextBoolean() ? "open" : "close", hand);
        for (int i = r.nextInt(4); i > 0 && good; i--) {
            String name = new String[] {"take", "mark", "comment", "move"}[r.nextInt(4)];
            int[] a = draw(r, name, m, hands);
            a[0] = hand;
            good = check(log, m, x, name, a);
        }
        for (int i = r.nextInt(6); i > 0 && good; i--) {
            good = check(log, m, x, r.nextInt(5) < 3 ? "undo" : "redo", hand) && check(log, m, x, "groups", hand, r.nextInt(2));
        }
        return good;
    }

    static boolean run(long seed) {
        Random r = new Random(seed);
        Pens m = new Pens();
        Manypens x = new Manypens();
        List<String> log = new ArrayList<>();
        int hands = 2 + r.nextInt(4);
        int often = 1 + r.nextInt(4);
        boolean crowds = seed % 8 == 0;
        boolean turns = seed % 4 == 2;
        int forgetful = r.nextInt(3) == 0 ? 0 : 15 + r.nextInt(60);
        for (int i = 0; i < 480; i++) {
            if (forgetful > 0 && r.nextInt(forgetful) == 0) {
                // all hear all, so that forgetting has a chance
                for (int k = 0; k < 8; k++) {
                    if (!check(log, m, x, "meet", 4, k % 4)) return false;
                }
                i += 8;
                if (!check(log, m, x, "forget")) return false;
            }
            if (crowds && r.nextInt(6) == 0 && !crowd(r, log, m, x, hands)) {
                return false;
            }
            if (turns && r.nextInt(20) == 0 && !turn(r, log, m, x, hands)) {
                return false;
            }
            String[] from = r.nextInt(often + 1) > 0 ? MAKING : ALL;
            String name = from[r.nextInt(from.length)];
            if (!check(log, m, x, name, draw(r, name, m, hands))) return false;
            if (i % 5 == 0 && !check(log, m, x, "checksum")) return false;
        }
        for (PHand h : m.hands) {
            longest = Math.max(longest, m.text(h.heard).size());
        }
        return checkAll(log, m, x);
    }

    static boolean checkAll(List<String> log, Pens m, Manypens x) {
        boolean good = check(log, m, x, "checksum") && check(log, m, x, "isTrue");
        for (int h = 0; h < 5 && good; h++) {
            for (String name : new String[] {"length", "runs", "comments", "cursor", "onWay", "waiting", "steps", "kept", "othersShare", "meanTime"}) {
                good = good && check(log, m, x, name, h);
            }
            for (int o = 0; o < 5; o++) {
                good = good && check(log, m, x, "isAlike", h, o) && check(log, m, x, "differ", h, o) && check(log, m, x, "lacks", h, o);
            }
            for (int i = 0; i <= m.hands[h].steps.size(); i++) {
                good = good && check(log, m, x, "lengthThen", h, i) && check(log, m, x, "signThen", h, i, i % 7);
            }
            for (int i = 0; i < m.text(m.hands[h].heard).size(); i++) {
                good = good && check(log, m, x, "birth", h, i) && check(log, m, x, "signAt", h, i);
            }
            for (int i = 0; i < m.hung(m.hands[h].heard).size(); i++) {
                for (char c : "nflc".toCharArray()) {
                    good = good && check(log, m, x, "commentAt", h, i, c);
                }
            }
        }
        return good;
    }

    public static void main(String[] args) {
        int runs = args.length > 0 ? Integer.parseInt(args[0]) : 150;
        int first = args.length > 1 ? Integer.parseInt(args[1]) : 1;
        for (int seed = first; seed < first + runs; seed++) {
            if (!run(seed)) {
                System.out.println("seed " + seed);
                System.exit(1);
            }
        }
        if (longest <= MOST_CROWDED) {
            System.out.println("no long text in these runs");
            System.exit(1);
        }
        List<String> dull = new ArrayList<>();
        for (String name : ALL) {
            if (answered.getOrDefault(name, 0) < 20) {
                dull.add(name);
            }
        }
        if (!dull.isEmpty()) {
            System.out.println("hardly answered in these runs: " + dull);
            System.exit(1);
        }
        if (args.length > 0) {
            System.out.println("the longest text had " + longest + " letters");
            for (String name : ALL) {
                System.out.println(name + " answered " + answered.get(name) + ", refused " + refused.get(name));
            }
        }
    }
}
