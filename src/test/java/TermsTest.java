/** Sentence by sentence of the document's terms, with calls whose answers were worked out by hand. */
public final class TermsTest {
    private static final int TERMS = Document.TERMS;
    private static final String ABC = Script.ABC;
    private static final String SIXTY = Script.SIXTY;

    public static void main(String[] args) {
        termsOfAll();
        termsOfEdits();
        termsOfLetters();
        termsOfForce();
        termsOfMarks();
        termsOfTheWay();
        termsOfThePast();
        termsOfExceptions();
        Document.end(TERMS, TERMS);
    }

    static void termsOfAll() {
        Document.says(TERMS, "Two hands that have heard the same edits, in whatever order, doubled or late", ABC, """
            type x; put 0 1 = 4; mark 1 0 2 b true true = 1; comment 2 1 2 5 = 201; type y; put 3 1 = 4
            way 4 = 1,2,101,201,301
            deliver 4 4 = h; repeat 4 1 = 5; deliver 4 3 = h; deliver 4 2 = h; deliver 4 2 = h; deliver 4 1 = k
            deliver 4 0 = k
            way 3 = 1,2,101,201
            deliver 3 1 = h; deliver 3 1 = h; deliver 3 1 = h
            text 3 = ayxbc; text 4 = ayxbc; marks 3 b = 11110; marks 4 b = 11110; hung 3 = 201:3-4:5; hung 4 = 201:3-4:5
            isAlike 3 4 = true; isAlike 2 4 = false; meet 2 3 = 3; isAlike 2 4 = true; isTrue = true
            """);
        Document.says(TERMS, "Letters that one edit put, of which none was taken out, stand beside each other", """
            type aaa; put 1 0; type bbb; put 2 0; meetAll; text 0 = bbbaaa
            type -; put 3 1 = 7; type +; put 4 5 = 7; meetAll; text 0 = b-bbaa+a
            """);
        Document.says(TERMS, "so letters of two edits that were put at one place never mix", ABC, """
            type 000; put 0 1; type 111; put 1 1; type 222; put 2 1; meetAll; text 4 = a222111000bc
            """);
        Document.says(TERMS, "A letter that was taken out is not seen again, unless that is undone", ABC, """
            take 1 1 1 = 2; take 4 1 1 = 2; meetAll; text 0 = ac; undo 1 = 1; text 1 = ac; meetAll; text 0 = ac
            undo 4 = 1; text 0 = ac; text 4 = abc; meetAll; text 0 = abc; redo 4 = 1; meetAll; text 0 = ac
            """);
        Document.says(TERMS, "what was put beside it stays between the same ones", ABC, """
            take 1 1 1 = 2; type x; put 2 2 = 4; meetAll; text 0 = axc; type y; put 3 1 = 4; meetAll; text 0 = ayxc
            undo 1 = 1; text 1 = aybxc; text 0 = ayxc; meetAll; text 0 = aybxc
            """);
        Document.says(TERMS, "Undoing a group takes back just what it did, whatever others did since", ABC, """
            open 0 = 1; type x; put 0 1 = 4; take 0 0 1 = 3; mark 0 0 3 b true true = 4; close 0 = 3; meetAll
            type y; put 1 1 = 4; take 2 1 1 = 2; meetAll; text 0 = xyc; marks 0 b = 111
            undo 0 = 3; text 0 = ayc; marks 0 b = 000; text 1 = xyc; redo 0 = 3; text 0 = xyc; marks 0 b = 111; meetAll
            text 4 = xyc
            """);
        Document.says(TERMS, "A cursor stands behind the same letter, whatever comes or goes", ABC, """
            setCursor 0 2 = 0; type x; put 0 0 = 4; cursor 0 = 3; take 0 2 1 = 3; cursor 0 = 2
            type y; put 0 2 = 4; text 0 = xayc; cursor 0 = 3; undo 0; cursor 0 = 2; undo 0; text 0 = xabc; cursor 0 = 3
            move 0 2 1 0 = -2; text 0 = bxac; cursor 0 = 3; take 0 0 4 = 0; cursor 0 = 0; undo 0; cursor 0 = 3
            """);
        Document.says(TERMS, "When two hands have met, each has heard all that the other one had", ABC, """
            type x; put 0 0; take 1 0 1; take 2 2 1; meet 0 1 = 2; lacks 0 1 = 0; lacks 1 0 = 0; lacks 2 0 = 1; lacks 0 2 = 2
            meet 2 1 = 3; lacks 2 0 = 1; lacks 0 2 = 0
            """);
        String ahead = "type abcd; put 0 0; meetAll; take 1 1 2 = 2; mark 2 0 1 b true true = 1; setCursor 3 2; meetAll; text 3 = ad;";
        String behind = "type n; put 3 1 = 3; type e; put 0 2 = 3; meetAll; text 4 = ande; marks 4 b = 1100; birth 4 1 = 301;";
        Document.says(TERMS, "What all have heard can be forgotten, and no text and no later edit becomes another one by that", ahead, behind);
        Document.says(TERMS, "What all have heard can be forgotten, and no text and no later edit becomes another one by that",
            ahead, "forget = 2; text 3 = ad; marks 3 b = 10", behind);
        Document.says(TERMS, "but where a cursor stood behind a letter that was not seen", ahead, behind, "cursor 3 = 2");
        Document.says(TERMS, "but where a cursor stood behind a letter that was not seen", ahead, "forget = 2", behind, "cursor 3 = 1");
    }

    static void termsOfEdits() {
        Document.says(TERMS, "There are the hands 0 to 4", """
            length 0 = 0; length 1 = 0; length 2 = 0; length 3 = 0; length 4 = 0
            length -1 ! IndexOutOfBounds; length 5 ! IndexOutOfBounds; length MIN ! IndexOutOfBounds
            length MAX ! IndexOutOfBounds
            """);
        Document.says(TERMS, "Each one has a text of its own, empty at first", """
            text 0 = nothing; text 4 = nothing; type x; put 3 0 = 1; text 3 = x; text 0 = nothing; text 4 = nothing
            type y; put 1 0 = 1; text 1 = y; text 3 = x
            """);
        Document.says(TERMS, "which are numbered from 1 for each hand, at most 40", """
            type x; put 3 0; birth 3 0 = 301; comment 3 0 1 0 = 302; type y; put 1 0; birth 1 0 = 101
            times 37 comment 3 0 1 0; mark 3 0 1 b true true = 40; heard 3 3 = 40
            mark 3 0 1 b true true ! IllegalState; undo 3 ! IllegalState; heard 1 1 = 1; mark 1 0 1 b true true = 2
            """);
        Document.says(TERMS, "A hand hears each edit of its own as it makes it", """
            type x; put 2 0; heard 2 2 = 1; steps 2 = 1; text 2 = x; onWay 2 = 0; heard 1 2 = 0; undo 2; heard 2 2 = 2
            text 2 = nothing
            redo 2; heard 2 2 = 3; text 2 = x
            """);
        Document.says(TERMS, "An edit leans on all edits that its hand had heard ahead of it", """
            type x; put 0 0; type y; put 0 0; type z; put 1 0; deliver 2 0 = h; type q; put 2 0; undo 2
            leans 0 1 0 = 0; leans 0 2 0 = 1; leans 1 1 0 = 0; leans 2 1 0 = 1; leans 2 1 1 = 0; leans 2 1 2 = 0
            leans 2 2 2 = 1
            leans 2 2 0 = 1
            """);
        Document.says(TERMS, "The time of an edit is 1 more than the greatest time of an edit that its hand had heard, 1 if there was none", """
            type a; put 0 0; meanTime 0 = 1.0; type b; put 0 1; meanTime 0 = 1.5; type c; put 1 0; meanTime 1 = 1.0
            meet 1 0 = 3; type d; put 1 0; text 1 = dcab; meanTime 1 = 1.75
            undo 0 = 1; text 0 = ca; type e; put 0 0; text 0 = eca; meanTime 0 = 2.0
            """);
    }

    static void termsOfLetters() {
        Document.says(TERMS, "the first one behind a letter that its hand sees, or behind the begin: the one ahead of the place that is told", ABC, """
            type x; put 1 0; type y; put 2 0; type p; put 1 4; type q; put 2 4; meetAll; text 0 = yxabcqp
            """);
        Document.says(TERMS, "without the letters that the same edit takes out", ABC, """
            type X; replace 1 1 1 = 3; type q; put 2 2 = 4; meetAll; text 0 = aXqc
            """);
        Document.says(TERMS, "without the letters that the same edit takes out", ABC, """
            type X; replace 1 0 3 = 1; type q; put 2 3 = 4; meetAll; text 0 = Xq
            """);
        Document.says(TERMS, "without the letters that the same edit takes out", ABC, """
            move 1 0 1 1 = 1; type q; put 2 2 = 4; meetAll; text 0 = bqac
            """);
        Document.says(TERMS, "without the letters that the same edit takes out", ABC, """
            move 1 1 1 1 = 0; type q; put 2 2 = 4; meetAll; text 0 = abqc; births 0 = 1,101,201,1
            """);
        Document.says(TERMS, "each next one behind the one ahead of it", """
            type xyz; put 1 0; meetAll; type q; put 2 1; type r; put 0 3; meetAll; text 4 = xqyzr
            """);
        Document.says(TERMS, "behind each one, and behind the begin, stand those that were put behind it, each followed by those that were put behind that one",
            ABC, "type x; put 1 1; type y; put 1 2; type p; put 2 1; meetAll; text 0 = apxybc");
        Document.says(TERMS, "those of greater times come first, of like times that of the higher hand", ABC, """
            type 4; put 4 1; type 1; put 1 1; type z; put 0 3; type 0; put 0 1; type 3; put 3 1; meetAll; text 2 = a0431bcz
            """);
        Document.says(TERMS, "those of greater times come first, of like times that of the higher hand", """
            type 1; put 1 0; type 3; put 3 0; type 0; put 0 0; type -; put 0 0; meetAll; text 2 = -310
            """);
        Document.says(TERMS, "A hand sees a letter if the edit that put it is in force, and no edit is in force that took it out", ABC, """
            take 0 0 2 = 1; take 1 1 2 = 1; meetAll; text 2 = nothing; undo 1; meetAll; text 2 = c; undo 0; meetAll
            text 2 = abc
            redo 1; meetAll; text 2 = a; undo 0; text 0 = nothing; redo 0; text 0 = a; undo 1; redo 0; text 0 = nothing
            text 1 = abc
            meetAll; text 0 = c; text 1 = c
            """);
        Document.says(TERMS, "The letters that it sees, in the order of the row, are its text", ABC, """
            take 0 1 1; text 0 = ac; kept 0 = 3
            """);
        Document.says(TERMS, "their places are told from 0", ABC, """
            signAt 1 0 = a; signAt 1 1 = b; signAt 1 2 = c; signAt 1 3 ! NoSuchElement
            """);
    }

    static void termsOfForce() {
        Document.says(TERMS, "An edit is in force from when it is made", ABC, """
            take 0 0 1; text 0 = bc; mark 0 0 1 b true true; marks 0 b = 10; comment 0 0 1 3; hung 0 = 4:0-0:3
            """);
        Document.says(TERMS, "are not in force, or in force again, for those who have heard that", ABC, """
            open 1; take 1 0 1; mark 1 0 1 b true false; comment 1 0 1 3; close 1 = 3; meet 1 2
            text 2 = bc; undo 1 = 3; text 1 = abc; marks 1 b = 000; hung 1 = none; text 2 = bc; marks 2 b = 10
            hung 2 = 103:0-0:3
            meet 1 2 = 1; text 2 = abc; marks 2 b = 000; hung 2 = none; redo 1 = 3; text 2 = abc; meet 2 1 = 1; text 2 = bc
            marks 2 b = 10; hung 2 = 103:0-0:3
            """);
        Document.says(TERMS, "Each edit of put(), take(), replace(), move(), mark(), comment() and write() is a group", """
            type abc; put 0 0; groups 0 false = 1; take 0 0 1; groups 0 false = 2; type x; replace 0 0 1; groups 0 false = 3
            move 0 0 1 1; groups 0 false = 4; mark 0 0 1 i true true; groups 0 false = 5; comment 0 0 1 0; groups 0 false = 6
            type w; write 0; groups 0 false = 7; undo 0 = 1; undo 0 = 1; undo 0 = 1; undo 0 = 1; text 0 = xc; undo 0 = 1
            undo 0 = 1
            undo 0 = 1; text 0 = nothing; groups 0 false = 0; undo 0 ! NoSuchElement
            """);
        Document.says(TERMS, "those that a hand makes while a group of it is open are one group", """
            open 0 = 0; type abc; put 0 0; take 0 0 1; type x; replace 0 0 1; move 0 0 1 1; mark 0 0 1 i true true
            comment 0 0 1 0
            type w; write 0; groups 0 false = 1; type o; put 1 0; groups 1 false = 1; close 0 = 7; groups 0 false = 1
            undo 0 = 7; text 0 = nothing; redo 0 = 7; text 0 = wcx
            """);
        Document.says(TERMS, "open() opens one, close(), undo(), redo() and forget() close it", """
            open 0; close 0 = 0; close 0 ! IllegalState; type a; put 0 0; open 0; undo 0; close 0 ! IllegalState
            open 0; redo 0; close 0 ! IllegalState; open 0; open 3; meetAll; forget = 0; close 0 ! IllegalState
            close 3 ! IllegalState
            open 0 = 0; close 0 = 0
            """);
        Document.says(TERMS, "one without edits is none", """
            open 0; close 0; groups 0 false = 0; undo 0 ! NoSuchElement; type a; put 0 0; open 0 = 1; groups 0 false = 1
            close 0 = 0
            groups 0 false = 1; open 0 = 1; undo 0 = 1; groups 0 false = 0; groups 0 true = 1
            """);
        Document.says(TERMS, "A hand can undo its groups, the latest one that is not undone first", """
            type a; put 0 0; type b; put 0 1; type c; put 0 2; undo 0; text 0 = ab; type d; put 0 2; text 0 = abd; undo 0
            undo 0
            text 0 = a; redo 0; text 0 = ab; undo 0; text 0 = a; undo 0; text 0 = nothing; undo 0 ! NoSuchElement
            """);
        Document.says(TERMS, "and do again those that it undid, the one that it undid last first", """
            type a; put 0 0; type b; put 0 1; type c; put 0 2; undo 0; undo 0; undo 0; redo 0; text 0 = a; redo 0; text 0 = ab
            undo 0; redo 0; text 0 = ab; redo 0; text 0 = abc; redo 0 ! NoSuchElement
            """);
        Document.says(TERMS, "as long as it has made no edit in between that is neither an undoing nor a doing again", """
            type ab; put 0 0; type c; put 0 2; undo 0; open 0; type x; put 1 0; meet 0 1; groups 0 true = 1; redo 0 = 1
            undo 0 = 1
            mark 0 0 1 b false false; groups 0 true = 0; redo 0 ! NoSuchElement; undo 0; groups 0 true = 1; redo 0 = 1
            redo 0 ! NoSuchElement
            """);
    }

    static void termsOfMarks() {
        Document.says(TERMS, "A mark that is told of letters goes, in the row, from the first one of them to the last one", """
            type abcde; put 0 0; mark 0 1 3 b true false = 2; marks 0 b = 01110; type x; put 0 1; type y; put 0 3; type z
            put 0 6
            text 0 = axbycdze; marks 0 b = 00111100
            take 0 2 1; take 0 4 1; text 0 = axycze; marks 0 b = 001100
            type p; put 0 2; type q; put 0 5; text 0 = axpycqze; marks 0 b = 00011100
            """);
        Document.says(TERMS, "if it grows, on to the letter that was next to the last one in its hand's text, without that one", """
            type abcde; put 0 0; mark 0 1 2 b true true; type x; put 0 3; text 0 = abcxde; marks 0 b = 011100; take 0 4 1
            type y; put 0 4; text 0 = abcxye; marks 0 b = 011110; undo 0; undo 0; type z; put 0 5; text 0 = abcxdze
            marks 0 b = 0111000
            """);
        // what the hand did not see, because it was taken out or not heard of, bounds nothing
        Document.says(TERMS, "the letter that was next to the last one in its hand's text", """
            type abcde; put 0 0; meetAll; take 0 2 1; mark 0 1 1 b true true; marks 0 b = 0100; undo 0; undo 0; redo 0; redo 0
            meetAll
            type x; put 1 2; text 1 = abxde; marks 1 b = 01100; type n; put 2 2; meet 2 1; text 2 = abnxde; marks 2 b = 011100
            """);
        Document.says(TERMS, "to the end of the row if there was none", """
            type abc; put 0 0; mark 0 2 1 i true true; mark 0 0 3 b true false; type x; put 0 3; text 0 = abcx
            marks 0 i = 0011
            marks 0 b = 1110; take 0 2 2; type y; put 0 2; text 0 = aby; marks 0 i = 000; marks 0 b = 111; take 0 0 3; type z
            put 0 0
            text 0 = z; marks 0 i = 0; marks 0 b = 0
            """);
        Document.says(TERMS, "Of the edits in force that tell of a mark of one kind for a letter so, that of the greatest time", ABC, """
            mark 1 0 3 b true false; mark 1 1 1 b false false; marks 1 b = 101; mark 1 0 2 b true false; marks 1 b = 111
            undo 1; marks 1 b = 101; undo 1; marks 1 b = 111; redo 1; marks 1 b = 101; mark 0 0 3 i true false
            mark 4 0 1 b true false
            mark 4 0 1 b false false; mark 4 0 3 b true false; meetAll; marks 2 b = 111; marks 2 i = 111
            """);
        Document.says(TERMS, "of like times that of the highest hand, tells whether it has the mark", ABC, """
            mark 2 0 3 b true false; mark 1 0 2 b false false; mark 3 2 1 b false false; meet 4 3; meet 4 2; meet 4 1
            marks 4 b = 110
            meet 0 1; meet 0 2; meet 0 3; marks 0 b = 110
            """);
        Document.says(TERMS, "it has none if there is no such edit", ABC, """
            marks 0 b = 000; marks 0 i = 000; mark 0 0 1 b true false; marks 0 b = 100; marks 0 i = 000; undo 0
            marks 0 b = 000
            mark 0 0 3 i false true; marks 0 i = 000
            """);
        Document.says(TERMS, "A comment hangs on all letters that stand, in the row, from the first one of those on which it was hung to the last one", """
            type abcde; put 0 0; comment 0 1 3 5; type x; put 0 1; type y; put 0 3; type z; put 0 6; text 0 = axbycdze
            hung 0 = 2:2-5:5
            take 0 2 1; take 0 4 1; text 0 = axycze; hung 0 = 2:2-3:5; take 0 2 2; text 0 = axze; hung 0 = none
            type q; put 0 2; text 0 = axqze; hung 0 = none; undo 0; undo 0; hung 0 = 2:2-3:5
            """);
        Document.says(TERMS, "as long as its edit is in force", ABC, """
            comment 1 1 1 8; meet 1 0; undo 1; hung 1 = none; hung 0 = 101:1-1:8; redo 1; hung 1 = 101:1-1:8; undo 1; meet 0 1
            hung 0 = none
            """);
        Document.says(TERMS, "The cursor of a hand stands behind a letter, seen or not, or behind the begin, as at first", """
            cursor 0 = 0; type abc; put 0 0; cursor 0 = 0; setCursor 0 3 = 0; cursor 0 = 3; take 0 1 2; cursor 0 = 1
            type x; put 0 1; text 0 = ax; cursor 0 = 2; setCursor 0 0 = 2; type y; put 0 0; cursor 0 = 0
            """);
        Document.says(TERMS, "its place is how many letters that the hand sees stand in the row up to there", ABC, """
            setCursor 1 2; type xy; put 0 1; take 0 0 1; cursor 1 = 2; meet 0 1; text 1 = xybc; cursor 1 = 3; undo 0; meet 0 1
            cursor 1 = 4
            """);
    }

    static void termsOfTheWay() {
        Document.says(TERMS, "Each edit is put on the way to each other hand as it is made, behind all that is on the way there", """
            type a; put 0 0; type b; put 3 0; undo 0; way 0 = 301; way 1 = 1,301,2; way 2 = 1,301,2; way 3 = 1,2
            way 4 = 1,301,2
            meet 1 2; way 1 = 1,301,2; repeat 1 0; redo 0; way 1 = 1,301,2,1,3
            """);
        Document.says(TERMS, "what is delivered, or lost, is on the way no longer", """
            type a; put 0 0; type b; put 0 1; type c; put 0 2; way 1 = 1,2,3; deliver 1 1 = w; way 1 = 1,3; lose 1 1 = 1
            way 1 = 1
            deliver 1 0 = h; way 1 = none; text 1 = ab; way 2 = 1,2,3
            """);
        Document.says(TERMS, "A hand hears an edit that is delivered to it if it has heard all on which it leans", """
            type a; put 0 0; meet 0 1; type b; put 1 1; way 2 = 1,101; deliver 2 0 = h; deliver 2 0 = h; text 2 = ab
            type c; put 3 0; way 2 = 301; deliver 2 0 = h; text 2 = cab
            """);
        Document.says(TERMS, "else the edit waits there", """
            type a; put 0 0; meet 0 1; type b; put 1 1; deliver 2 1 = w; waiting 2 = 1; text 2 = nothing; heard 2 1 = 0
            steps 2 = 0
            """);
        Document.says(TERMS, "the one of the lowest hand, that with the lowest number, is heard, again and again, as long as there is one", """
            type a; put 0 0; meet 0 1; meet 0 3; type b; put 3 1; type c; put 3 2; type d; put 1 1; meet 1 3; type e; put 1 4
            # 1, 301, 302, 101, and 102, which leans on all of them
            text 1 = abcde; way 2 = 1,301,302,101,102; deliver 2 4 = w; deliver 2 3 = w; deliver 2 2 = w; deliver 2 1 = w
            waiting 2 = 4
            deliver 2 0 = h; waiting 2 = 0; steps 2 = 5; then 2 1 = a; then 2 2 = ad; then 2 3 = abd; then 2 4 = abcd
            then 2 5 = abcde
            """);
        Document.says(TERMS, "Whenever a hand has heard an edit that it did not make", """
            type a; put 0 0; type b; put 0 1; deliver 2 1 = w; type x; put 2 0; waiting 2 = 1; text 2 = x; undo 2
            waiting 2 = 1
            meet 2 1 = 2; waiting 2 = 1; deliver 1 0 = h; waiting 1 = 0; meet 1 2 = 2; waiting 2 = 0; text 2 = ab
            heard 1 0 = 1
            """);
        Document.says(TERMS, "An edit that a hand has heard does not wait there any more", """
            type a; put 0 0; type b; put 0 1; deliver 2 1 = w; waiting 2 = 1; meet 2 0 = 2; waiting 2 = 0; heard 2 0 = 2
            steps 2 = 2
            """);
        Document.says(TERMS, "Two hands that meet each hear all that the other one had heard and they had not, those of lesser times first", """
            type a; put 3 0; type b; put 3 1; type c; put 0 0; meet 3 0 = 3; text 0 = abc; text 3 = abc
            then 3 1 = a; then 3 2 = ab; then 3 3 = abc; then 0 1 = c; then 0 2 = ac; then 0 3 = abc
            meet 4 3 = 3; then 4 1 = c; then 4 2 = ac; then 4 3 = abc
            """);
        Document.says(TERMS, "of like times those of lower hands", """
            type a; put 3 0; type b; put 1 0; type c; put 2 0; meet 3 2; meet 3 1; meet 3 4 = 3; then 4 1 = b; then 4 2 = cb
            then 4 3 = acb
            """);
    }

    static void termsOfThePast() {
        Document.says(TERMS, "Each edit that a hand has heard, since the latest forget(), or at all, is a step, in the order in which it heard them", """
            type a; put 0 0; type b; put 1 0; undo 1; deliver 0 0 = h; steps 0 = 2; steps 1 = 2; then 0 1 = a; then 0 2 = ba
            then 1 1 = b
            then 1 2 = nothing; meetAll; steps 0 = 3; then 0 3 = a; steps 1 = 3; then 1 3 = a; forget = 1; steps 0 = 0
            steps 1 = 0
            type c; put 1 0; steps 1 = 1; steps 0 = 0; then 1 0 = a; then 1 1 = ca
            """);
        Document.says(TERMS, "behind 0 of them its text is what it was when that began", ABC, """
            then 0 0 = nothing; take 0 0 1; meetAll; then 0 0 = nothing; forget = 1; then 0 0 = bc; then 4 0 = bc; type x
            put 4 0
            take 4 1 2; then 4 0 = bc; then 4 1 = xbc; then 4 2 = x; meetAll; forget = 2; then 4 0 = x; then 1 0 = x
            """);
        Document.says(TERMS, "All letters that are not seen are in no row any more; the others stay in their order", """
            type abcde; put 0 0; type x; put 1 0; meetAll; take 2 0 2; undo 1; take 3 3 1; kept 0 = 6; meetAll; text 0 = bde
            kept 0 = 6
            forget = 3; kept 0 = 3; kept 4 = 3; text 0 = bde; text 4 = bde; births 4 = 1,1,1
            """);
        Document.says(TERMS, "what is put behind one of them later comes right behind it, as ever", ABC, """
            type x; put 1 1; take 1 2 1; meetAll; forget = 1; text 0 = axc; type p; put 0 1; type q; put 4 1; type r; put 2 0
            type s; put 3 2
            meetAll; text 0 = raqpxsc
            """);
        Document.says(TERMS, "a cursor that stands behind one of these stands behind the last one ahead of it that is seen then, or behind the begin", """
            type abcdef; put 0 0; meetAll; setCursor 0 3; setCursor 1 1; setCursor 2 6; setCursor 3 5; take 4 0 1; take 4 1 1
            take 4 3 1; meetAll
            text 0 = bde; cursor 0 = 1; cursor 1 = 0; cursor 2 = 3; cursor 3 = 3; forget = 3
            cursor 0 = 1; cursor 1 = 0; cursor 2 = 3; cursor 3 = 3; type p; put 0 1; type q; put 1 0; type r; put 2 3; type s
            put 3 3
            cursor 0 = 1; cursor 1 = 0; cursor 2 = 3; cursor 3 = 3
            """);
        Document.says(TERMS, "A mark or a comment whose first letter goes begins at the next one behind that which is left", """
            type abcdef; put 0 0; mark 0 1 3 b true false; comment 0 1 3 7; mark 0 1 3 i true true; take 0 1 2; meetAll
            forget = 2
            text 1 = adef; marks 1 b = 0100; marks 1 i = 0100; hung 1 = 3:1-1:7; type x; put 1 1; text 1 = axdef
            marks 1 b = 00100
            marks 1 i = 00100; hung 1 = 3:2-2:7; type y; put 1 3; text 1 = axdyef; marks 1 b = 001000; marks 1 i = 001100
            """);
        // the next one that is left stands behind the whole of it
        Document.says(TERMS, "A mark or a comment whose first letter goes begins at the next one behind that which is left", """
            type abcd; put 0 0; mark 0 1 1 b true false; comment 0 1 1 7; mark 0 1 1 i true true; take 0 1 1; meetAll
            forget = 1
            marks 1 b = 000; marks 1 i = 000; hung 1 = none; type x; put 1 1; type y; put 1 3; text 1 = axcyd
            marks 1 b = 00000; marks 1 i = 00000
            hung 1 = none; take 1 2 1; meetAll; forget = 1; type z; put 2 2; text 2 = axzyd; marks 2 b = 00000
            marks 2 i = 00000; hung 2 = none
            """);
        // none is left behind it
        Document.says(TERMS, "A mark or a comment whose first letter goes begins at the next one behind that which is left", """
            type abc; put 0 0; mark 0 1 2 b true false; comment 0 1 2 7; mark 0 1 1 i true true; mark 0 2 1 i true true
            take 0 1 2; meetAll
            forget = 2; marks 1 b = 0; hung 1 = none; type xy; put 1 1; text 1 = axy; marks 1 b = 000; marks 1 i = 000
            hung 1 = none
            """);
        Document.says(TERMS, "one whose last letter, or, if it grows, the letter up to which it goes, is forgotten, goes on up to the next one behind that which is left", """
            type abcdefg; put 0 0; mark 0 1 2 b true false; comment 0 1 2 7; mark 0 1 2 i true true; take 0 2 2; meetAll
            forget = 2
            text 1 = abefg; marks 1 b = 01000; marks 1 i = 01000; hung 1 = 3:1-1:7; type x; put 1 2; text 1 = abxefg
            marks 1 b = 011000
            marks 1 i = 011000; hung 1 = 3:1-2:7; take 1 3 1; meetAll; forget = 1; type y; put 2 3; text 2 = abxyfg
            marks 2 b = 011100
            marks 2 i = 011100; hung 2 = 3:1-3:7
            """);
        // the last one goes, but it is the one up to which it goes that counts if it grows
        Document.says(TERMS, "or, if it grows, the letter up to which it goes, is forgotten", """
            type abcd; put 0 0; mark 0 0 2 b true true; mark 0 0 2 i true false; take 0 1 1; meetAll; forget = 1; text 1 = acd
            type x; put 1 1; type y; put 1 3; text 1 = axcyd; marks 1 b = 11000; marks 1 i = 11000
            """);
        Document.says(TERMS, "without that one, or to the end of the row", """
            type abcd; put 0 0; mark 0 1 2 b true false; comment 0 1 2 7; mark 0 1 2 i true true; take 0 2 2; meetAll
            forget = 2
            text 1 = ab; type x; put 1 2; text 1 = abx; marks 1 b = 011; marks 1 i = 011; hung 1 = 3:1-2:7
            """);
        Document.says(TERMS, "No group can be undone, or done again, any more, that was made ahead of this", ABC, """
            type x; put 1 0; undo 1; type y; put 2 0; undo 2; redo 2; open 0; mark 0 0 1 b true true; meetAll
            groups 0 false = 2
            groups 1 true = 1; forget = 1; groups 0 false = 0; groups 1 true = 0; groups 2 false = 0; undo 0 ! NoSuchElement
            redo 1 ! NoSuchElement; undo 2 ! NoSuchElement; type z; put 0 0; groups 0 false = 1; undo 0 = 1
            undo 0 ! NoSuchElement; redo 0 = 1
            """);
        Document.says(TERMS, "numbers and times stay", ABC, """
            type x; put 0 3; type y; put 1 0; meetAll; forget = 0; type z; put 0 0; type w; put 1 0; births 0 = 3,101,1,1,1,2
            births 1 = 102,101,1,1,1,2; meanTime 0 = 1.6666666666666667; leans 0 3 0 = 2; leans 0 3 1 = 1; heard 4 0 = 2
            mark 0 0 1 b true true = 4; meetAll; text 0 = wzyabcx
            """);
    }

    static void termsOfExceptions() {
        // each refused call of these tests is looked at; here those that could leave something behind
        Document.says(TERMS, "A method that throws an exception changes nothing", """
            type abc; put 0 0; open 0; take 0 0 1; undo 0; open 0; take 0 9 1 ! NoSuchElement; undo 1 ! NoSuchElement; type xy
            put 0 4 ! NoSuchElement; put 5 0 ! IndexOutOfBounds; replace 0 0 9 ! NoSuchElement; groups 0 true = 1; redo 0 = 1
            open 0; open 0 ! IllegalState; close 0 = 0; erase = 2; open 1; undo 1 ! NoSuchElement; redo 1 ! NoSuchElement
            close 1 = 0
            lose 1 9 ! NoSuchElement; deliver 1 -1 ! NoSuchElement; repeat 1 9 ! NoSuchElement; forget ! IllegalState
            meet 1 1 ! IllegalArgument
            setCursor 0 9 ! NoSuchElement; type #127 ! IllegalArgument
            """);
        Document.says(TERMS, "If several exceptions apply, the one that is documented first is thrown", """
            put 5 -1 ! IndexOutOfBounds; put 0 -1 ! NoSuchElement; put 0 0 ! UnsupportedOperation
            replace 0 0 0 ! NoSuchElement
            mark 9 0 0 x true true ! IndexOutOfBounds; mark 0 0 0 x true true ! IllegalArgument
            isMarked 5 0 x ! IndexOutOfBounds
            isMarked 0 0 x ! IllegalArgument; commentAt 5 0 x ! IndexOutOfBounds; commentAt 0 0 x ! NoSuchElement
            meet 5 5 ! IndexOutOfBounds; leans 5 0 0 ! IndexOutOfBounds; leans 0 0 5 ! IndexOutOfBounds
            write 5 ! IndexOutOfBounds
            othersShare 5 ! IndexOutOfBounds; meanTime -1 ! IndexOutOfBounds; signThen 5 9 9 ! IndexOutOfBounds
            type abcdefghijkl; type #31 ! IllegalArgument; put 0 1 ! NoSuchElement
            """);
        Document.says(TERMS, "If several exceptions apply, the one that is documented first is thrown", SIXTY, """
            times 35 comment 0 0 60 0; take 0 60 1 ! NoSuchElement; move 0 0 60 1 ! NoSuchElement
            comment 0 0 61 1 ! NoSuchElement
            mark 0 0 0 b true true ! NoSuchElement; mark 0 0 1 a true true ! IllegalArgument; redo 0 ! NoSuchElement
            put 0 0 ! UnsupportedOperation; write 0 ! UnsupportedOperation; replace 0 0 1 ! UnsupportedOperation; type x
            put 0 61 ! NoSuchElement; replace 0 0 61 ! NoSuchElement; put 0 60 ! IllegalState; write 0 ! IllegalState
            replace 0 0 1 ! IllegalState; undo 0 ! IllegalState; open 0; undo 0 ! IllegalState; close 0 = 0
            times 160 repeat 4 0; repeat 4 200 ! NoSuchElement; repeat 4 0 ! IllegalState
            """);
    }
}
