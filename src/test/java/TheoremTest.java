import java.util.ArrayList;
import java.util.List;
import java.util.Random;

/**
 * What the document's terms claim ahead of "Edits.", by drawn runs (of fixed seeds) that need no model: two objects
 * whose calls differ as the claim lets them are compared.
 */
public final class TheoremTest {
    private static final int HANDS = 5;
    private static int wrong = 0;

    public static void main(String[] args) {
        int runs = args.length > 0 ? Integer.parseInt(args[0]) : 1000;
        for (int seed = 1; seed <= runs; seed++) {
            anyOrder(seed);
            forgetting(seed);
            undoing(seed);
            meeting(seed);
        }
        if (wrong != 0) {
            System.out.println(wrong + " wrong");
            System.exit(1);
        }
    }

    private static void need(boolean good, String what, long seed, String more) {
        if (!good) {
            wrong++;
            System.out.println(what + ", seed " + seed + ": " + more);
        }
    }

    // ---- what is drawn

    /** An edit that the hand can make, as calls of names and numbers; nothing if there is none just now. */
    private static List<Object[]> edit(Random r, Calls x, int hand, boolean mayWrite) {
        List<Object[]> calls = new ArrayList<>();
        int length = x.number("length", hand);
        int kind = r.nextInt(length == 0 ? 2 : 8);
        if (kind <= 2) {
            int many = 1 + r.nextInt(3);
            if (length + many > 40) {
                return calls;
            }
            for (int i = 0; i < many; i++) {
                calls.add(new Object[] {"type", 'a' + r.nextInt(26)});
            }
        }
        int place = r.nextInt(length + (kind <= 1 ? 1 : 0));
        int many = kind <= 1 ? 0 : 1 + r.nextInt(Math.min(4, length - place));
        int bit = r.nextInt(2);
        switch (kind) {
            case 0: calls.add(mayWrite ? new Object[] {"write", hand} : new Object[] {"put", hand, place}); break;
            case 1: calls.add(new Object[] {"put", hand, place}); break;
            case 2: calls.add(new Object[] {"replace", hand, place, many}); break;
            case 3: calls.add(new Object[] {"take", hand, place, many}); break;
            case 4: calls.add(new Object[] {"move", hand, place, many, r.nextInt(length - many + 1)}); break;
            case 5: calls.add(new Object[] {"comment", hand, place, many, r.nextInt(100)}); break;
            default: calls.add(new Object[] {"mark", hand, place, many, "bi".charAt(r.nextInt(2)), r.nextInt(4) > 0 ? 1 : 0, bit});
        }
        return calls;
    }

    private static String answer(Calls x, Object[] call) {
        int[] a = new int[call.length - 1];
        for (int i = 0; i < a.length; i++) {
            a[i] = call[i + 1] instanceof Character sign ? sign : (Integer) call[i + 1];
        }
        return x.answer((String) call[0], a);
    }

    private static boolean all(List<Object[]> calls, Calls... objects) {
        boolean good = true;
        for (Object[] call : calls) {
            String first = answer(objects[0], call);
            for (int i = 1; i < objects.length; i++) {
                good &= answer(objects[i], call).equals(first);
            }
        }
        return good;
    }

    private static void meetAll(Calls... objects) {
        for (Calls x : objects) {
            for (int i = 0; i < 8; i++) {
                x.answer("meet", 4, i % 4);
            }
        }
    }

    /** The text of a hand, with births, marks and comments. */
    private static String seen(Calls x, int hand) {
        StringBuilder all = new StringBuilder();
        int length = x.number("length", hand);
        for (int i = 0; i < length; i++) {
            all.append(x.answer("signAt", hand, i)).append(x.answer("birth", hand, i))
                .append(x.answer("isMarked", hand, i, 'b').equals("true") ? "b" : "")
                .append(x.answer("isMarked", hand, i, 'i').equals("true") ? "i" : "").append(' ');
        }
        int comments = x.number("comments", hand);
        for (int i = 0; i < comments; i++) {
            for (char what : "nflc".toCharArray()) {
                all.append(' ').append(what).append(x.answer("commentAt", hand, i, what));
            }
        }
        return all.toString();
    }

    /** Hands 0 to 3 make some edits and meet now and then; hand 4 hears nothing yet. */
    private static void start(Random r, int many, boolean mayUndo, Calls... objects) {
        for (int i = 0; i < many; i++) {
            int hand = r.nextInt(4);
            int kind = r.nextInt(12);
            if (kind < 2) {
                all(List.of(new Object[][] {{"meet", hand, (hand + 1 + r.nextInt(3)) % 4}}), objects);
            } else if (kind < 5 && mayUndo) {
                String[] names = {"undo", "redo", "open", "undo", "close"};
                all(List.of(new Object[][] {{names[r.nextInt(5)], hand}}), objects);
            } else {
                all(edit(r, objects[0], hand, true), objects);
            }
        }
    }

    // ---- what is claimed

    /** "Two hands that have heard the same edits, in whatever order, doubled or late, see the same." */
    private static void anyOrder(long seed) {
        Random r = new Random(seed);
        Calls x = new Calls();
        start(r, 40, true, x);
        Calls one = new Calls();
        Calls other = new Calls();
        start(new Random(seed), 40, true, one);
        start(new Random(seed), 40, true, other);
        deliverAll(r, one, 4);
        deliverAll(r, other, 4);
        for (int i = 0; i < 4; i++) {
            x.answer("meet", 4, i);
        }
        String due = seen(x, 4);
        need(seen(one, 4).equals(due) && seen(other, 4).equals(due), "whatever order", seed, due);
        need(one.answer("waiting", 4).equals("0"), "waiting", seed, "");
        neverMix(x, 4, seed);
        need(one.answer("isTrue").equals("true") && x.answer("isTrue").equals("true"), "isTrue", seed, "");
    }

    private static void deliverAll(Random r, Calls x, int hand) {
        int doubled = 6;
        for (int way = x.number("onWay", hand); way > 0; way = x.number("onWay", hand)) {
            if (doubled > 0 && r.nextInt(4) == 0) {
                x.answer("repeat", hand, r.nextInt(way));
                doubled--;
            }
            x.answer("deliver", hand, r.nextInt(way));
        }
    }

    /** "Letters that one edit put stand beside each other but for what was put behind by edits that had heard of it." */
    private static void neverMix(Calls x, int hand, long seed) {
        int length = x.number("length", hand);
        int[] births = new int[length];
        for (int i = 0; i < length; i++) {
            births[i] = x.number("birth", hand, i);
        }
        for (int i = 0; i < length; i++) {
            for (int k = length - 1; k > i; k--) {
                if (births[k] == births[i]) {
                    for (int between = i + 1; between < k; between++) {
                        int birth = births[between];
                        boolean isPutBehind = birth == births[i] || x.left() < 60
                            || x.number("leans", birth / 100, birth % 100, births[i] / 100) >= births[i] % 100;
                        need(isPutBehind, "mixed", seed, birth + " among " + births[i]);
                    }
                    break;
                }
            }
        }
    }

    /** "What all have heard can be forgotten, and no text and no later edit becomes another one by that." */
    private static void forgetting(long seed) {
        Random r = new Random(seed);
        Calls one = new Calls();
        Calls other = new Calls();
        for (int part = 0; part < 3; part++) {
            for (int i = 0; i < 14; i++) {
                goOn(r, one, other, seed);
            }
            meetAll(one, other);
            for (int hand = 0; hand < HANDS; hand++) {
                one.answer("close", hand);
                other.answer("close", hand);
                int place = one.number("cursor", hand);
                one.answer("setCursor", hand, place);
                other.answer("setCursor", hand, place);
            }
            one.answer("forget");
            need(one.answer("checksum").equals(other.answer("checksum")), "forgotten", seed, "part " + part);
        }
        for (int i = 0; i < 14; i++) {
            goOn(r, one, other, seed);
        }
        for (int hand = 0; hand < 3; hand++) {
            if (one.left() > 160 && other.left() > 160) {
                String due = seen(other, hand);
                need(seen(one, hand).equals(due), "forgotten", seed, due);
            }
        }
    }

    private static void goOn(Random r, Calls one, Calls other, long seed) {
        int hand = r.nextInt(HANDS);
        int kind = r.nextInt(10);
        List<Object[]> calls = new ArrayList<>();
        if (kind == 0) {
            calls.add(new Object[] {"meet", hand, (hand + 1 + r.nextInt(4)) % HANDS});
        } else if (kind == 1) {
            calls.add(new Object[] {"deliver", hand, r.nextInt(1 + one.number("onWay", hand))});
        } else if (kind == 2) {
            // what an open one tells is how many groups there are, which is another number without forgetting
            one.answer("open", hand);
            other.answer("open", hand);
        } else if (kind == 3) {
            calls.add(new Object[] {"close", hand});
        } else if (kind < 6) {
            boolean isUndone = r.nextInt(3) == 0;
            if (one.number("groups", hand, isUndone ? 1 : 0) > 0) {
                calls.add(new Object[] {isUndone ? "redo" : "undo", hand});
            }
        } else {
            calls.addAll(edit(r, one, hand, true));
        }
        need(all(calls, one, other), "another answer", seed, calls.isEmpty() ? "" : (String) calls.get(0)[0]);
        need(one.answer("checksum").equals(other.answer("checksum")), "another sum", seed, "");
    }

    /** "Undoing a group takes back just what it did, whatever others did since, and doing it again brings that back." */
    private static void undoing(long seed) {
        Random r = new Random(seed);
        Calls never = new Calls();
        Calls undone = new Calls();
        Calls always = new Calls();
        start(r, 20, true, never, undone, always);
        int hand = r.nextInt(4);
        for (Calls x : new Calls[] {never, undone, always}) {
            x.answer("close", hand);
        }
        undone.answer("open", hand);
        always.answer("open", hand);
        for (int i = 1 + r.nextInt(3); i > 0; i--) {
            all(edit(r, undone, hand, false), undone, always);
        }
        if (undone.answer("close", hand).equals("0")) {
            return;
        }
        always.answer("close", hand);
        // others, who have not heard of it, go on, and the hand hears of that
        for (int i = 0; i < 5; i++) {
            int other = (hand + 1 + r.nextInt(4)) % HANDS;
            all(edit(r, never, other, false), never, undone, always);
        }
        for (int i = 0; i < 25; i++) {
            for (Calls x : new Calls[] {never, undone, always}) {
                x.answer("deliver", hand, 0);
            }
        }
        undone.answer("undo", hand);
        need(seen(undone, hand).equals(seen(never, hand)), "undone", seed, "");
        need(undone.answer("cursor", hand).equals(never.answer("cursor", hand)), "cursor, undone", seed, "");
        undone.answer("redo", hand);
        need(seen(undone, hand).equals(seen(always, hand)), "done again", seed, "");
    }

    /** "When two hands have met, each has heard all that the other one had." */
    private static void meeting(long seed) {
        Random r = new Random(seed);
        Calls x = new Calls();
        start(r, 30, true, x);
        for (int i = 0; i < 12; i++) {
            x.answer("deliver", 4, r.nextInt(1 + x.number("onWay", 4)));
        }
        int one = 4;
        int other = r.nextInt(4);
        int[][] before = {heard(x, one), heard(x, other)};
        int waited = x.number("waiting", one);
        int many = x.number("meet", one, other);
        int[][] behind = {heard(x, one), heard(x, other)};
        int more = 0;
        for (int of = 0; of < HANDS; of++) {
            int both = Math.max(before[0][of], before[1][of]);
            need(behind[0][of] >= both && behind[1][of] == both, "met", seed, one + " " + other);
            more += behind[0][of] - before[0][of] + behind[1][of] - before[1][of];
        }
        need(many == more, "met", seed, many + " heard, " + more + " more");
        need(x.number("waiting", one) <= waited, "waiting", seed, "");
    }

    private static int[] heard(Calls x, int hand) {
        int[] all = new int[HANDS];
        for (int of = 0; of < HANDS; of++) {
            all[of] = x.number("heard", hand, of);
        }
        return all;
    }
}
