import java.lang.reflect.Method;

/** All calls in the states that are edges themselves: a new object, a text that is empty, the moment behind forget(). */
public final class StatesTest {
    /** What a hand answers that sees no letter. */
    private static final String EMPTY = """
        length H = 0; text H = nothing; runs H = 0; comments H = 0; cursor H = 0; signAt H 0 ! NoSuchElement
        birth H 0 ! NoSuchElement; isMarked H 0 b ! NoSuchElement; isMarked H 0 x ! IllegalArgument
        commentAt H 0 n ! NoSuchElement; setCursor H 0 = 0; setCursor H 1 ! NoSuchElement; othersShare H ! Arithmetic
        meanTime H ! Arithmetic; take H 0 1 ! NoSuchElement; take H 0 0 ! NoSuchElement; replace H 0 1 ! NoSuchElement
        move H 0 1 0 ! NoSuchElement; mark H 0 1 b true true ! NoSuchElement; mark H 0 1 x true true ! IllegalArgument
        comment H 0 1 1 ! NoSuchElement; put H 0 ! UnsupportedOperation; put H 1 ! NoSuchElement
        write H ! UnsupportedOperation; differ H H = 0; isAlike H H = true
        """;

    private static final String ABC = Script.ABC;

    public static void main(String[] args) {
        noSuchHand();
        freshOnes();
        emptyTexts();
        rightBehindForget();
        lastCalls();
        Document.end(1, 0);
    }

    /** "if there is no such hand", which each promise of a hand says first. */
    static void noSuchHand() {
        for (int hand : new int[] {-1, 5, Integer.MIN_VALUE, Integer.MAX_VALUE, 100, -5}) {
            for (Method method : Calls.METHODS.values()) {
                if (method.getParameterCount() > 0 && method.getParameterTypes()[0] == int.class) {
                    noSuchHand(method, hand);
                }
            }
        }
    }

    static void noSuchHand(Method method, int hand) {
        for (int other = 0; other < 3; other++) {
            StringBuilder call = new StringBuilder(method.getName() + " " + hand);
            for (int i = 1; i < method.getParameterCount(); i++) {
                Class<?> kind = method.getParameterTypes()[i];
                String more = kind == char.class ? "bix".substring(other, other + 1) : kind == boolean.class ? "true" : "" + (other - 1);
                call.append(' ').append(more);
            }
            for (String ahead : new String[] {"", "type x", ABC + "type x"}) {
                for (String line : Script.of(ahead + "\n" + call + " ! IndexOutOfBounds").wrong) {
                    Document.tell("no such hand: " + line);
                }
            }
        }
    }

    // ---- a new object, a text that is empty, and the moment behind forget()

    static void freshOnes() {
        String fresh = "a new object";
        for (int hand = 0; hand < 5; hand++) {
            Document.answers(fresh, hand, EMPTY, """
                kept H = 0; heard H H = 0; onWay H = 0; wayAt H 0 ! NoSuchElement; deliver H 0 ! NoSuchElement
                repeat H 0 ! NoSuchElement; lose H 0 ! NoSuchElement; waiting H = 0; leans H 1 0 ! NoSuchElement
                steps H = 0; lengthThen H 0 = 0; lengthThen H 1 ! NoSuchElement; signThen H 0 0 ! NoSuchElement
                groups H false = 0; groups H true = 0; undo H ! NoSuchElement; redo H ! NoSuchElement; close H ! IllegalState
                """);
            Document.answers(fresh, hand, """
                meet H H ! IllegalArgument; differ H 0 = 0; lacks H 4 = 0; isAlike H 2 = true; isTrue = true; erase = 0
                forget = 0; open H = 0; close H = 0; type x; put H 0 = 1
                """);
            Document.answers(fresh, hand, "type xy; write H = 2; text H = xy");
            Document.answers(fresh, hand, "forget = 0; forget = 0; isTrue = true; setCursor H 0 = 0; meetAll; steps H = 0");
        }
        Document.answers(fresh, 0, "meet 0 1 = 0; meet 4 0 = 0; checksum = " + ofNothing());
    }

    /** The sum over all of a new object. */
    static long ofNothing() {
        long sum = 7;
        for (int i = 0; i < 5 * 7; i++) {
            sum *= 31;
        }
        return sum;
    }

    static void emptyTexts() {
        for (int hand = 0; hand < 5; hand++) {
            Document.answers("a text that was undone", hand, "type abc; put H 0; setCursor H 2; undo H", EMPTY, """
                kept H = 3; type x; write H = 1; text H = x; redo H ! NoSuchElement
                """);
            Document.answers("a text that was taken", hand, ABC, "take 3 0 3; meetAll; setCursor 1 0", EMPTY, """
                kept H = 3; type x; put H 0 = 1; text H = x; kept H = 4
                """);
            Document.answers("a text that was taken and forgotten", hand, ABC, "take 3 0 3; meetAll; forget = 3", EMPTY, """
                kept H = 0; type x; put H 0 = 1; take H 0 1 = 0; type y; write H = 1; text H = y; lengthThen H 0 = 0
                """);
        }
        Document.answers("a text that was not heard", 3, "type abc; put 1 0", EMPTY, "kept H = 0; onWay H = 1; deliver H 0 = h; text H = abc");
        // taken by one, put behind that by another one, and taken back
        Document.answers("texts that are empty for a while", 4, ABC, """
            take 0 0 3; type x; put 1 3; meetAll; text H = x; take H 0 1 = 0; undo 0; text 0 = abcx; meetAll; text H = abc
            move H 0 3 0 = 0; text H = abc; take H 0 3 = 0; kept H = 7
            """);
    }

    static void rightBehindForget() {
        String behind = "right behind forget()";
        String ahead = """
            type abcdef; put 0 0; comment 0 1 2 7; mark 0 0 6 b true true; take 0 1 1; type x; put 3 0; undo 3; open 0; open 2
            meetAll; setCursor 1 2; setCursor 4 5; take 1 4 1; meetAll; forget = 3
            """;
        for (int hand = 0; hand < 5; hand++) {
            Document.answers(behind, hand, ahead, """
                text H = acde; length H = 4; kept H = 4; births H = 1,1,1,1; marks H b = 1111; marks H i = 0000; runs H = 1
                hung H = 2:1-1:7; groups H false = 0; groups H true = 0; steps H = 0; lengthThen H 0 = 4
                lengthThen H 1 ! NoSuchElement; signThen H 0 3 = e; signThen H 0 4 ! NoSuchElement; undo H ! NoSuchElement
                redo H ! NoSuchElement; close H ! IllegalState; waiting H = 0; heard H 0 = 4; heard H 1 = 1; heard H 3 = 2
                leans 3 2 3 = 1; differ H 0 = 0; isAlike H 4 = true; meanTime H = 1.0; lacks 0 H = 0; lacks H 0 = 0
                """);
            Document.answers(behind, hand, ahead, """
                put H 0 ! UnsupportedOperation; put H 5 ! NoSuchElement; take H 3 2 ! NoSuchElement
                move H 0 4 1 ! NoSuchElement
                signAt H 4 ! NoSuchElement; commentAt H 1 n ! NoSuchElement
                """);
            Document.answers(behind, hand, ahead, """
                forget = 0; open H = 0; take H 0 4 = 0; kept H = 4; comments H = 0; close H = 1; undo H = 1; text H = acde
                hung H = 2:1-1:7; redo H = 1; isTrue = true
                """);
            Document.answers(behind, hand, ahead, """
                type xy; put H 4 = 6; text H = acdexy; marks H b = 111111; type z; put H 1 = 7; text H = azcdexy
                hung H = 2:2-2:7; isTrue = true; meetAll; text 0 = azcdexy
                """);
            Document.answers(behind, hand, ahead, """
                cursor 0 = 0; cursor 1 = 2; cursor 4 = 4; type z; write H; steps H = 1; lengthThen H 0 = 4; lengthThen H 1 = 5
                forget ! IllegalState; meetAll; forget = 0
                """);
            Document.answers(behind, hand, ahead, """
                move H 3 1 0 = -3; text H = eacd; type q; replace H 1 3 = 2; text H = eq; mark H 0 2 i true false
                comment H 1 1 1; comments H = 1; isTrue = true; meetAll; text 2 = eq
                """);
        }
        Document.answers(behind, 4, ahead, """
            onWay H = 7; deliver H 6 = k; deliver H 0 = k; onWay H = 5; repeat H 0 = 6; lose H 0 = 5; meet 0 H = 0
            steps H = 0
            isTrue = true
            """);
        Document.answers("forget() again and again", 4, ABC, """
            take 0 0 1; meetAll; forget = 1; take 1 0 1; meetAll; forget = 1; take 2 0 1; meetAll; forget = 1; forget = 0
            type x; put 3 0; meetAll; forget = 0; text 0 = x; kept H = 1; isTrue = true
            """);
    }

    /** What the document promises of 512 calls. */
    static void lastCalls() {
        Document.answers("512 calls", 0, "times 507 length 0 = 0; type a = 1; put 0 0 = 1; undo 0 = 1; redo 0 = 1; isTrue = true");
    }
}
