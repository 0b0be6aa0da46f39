/** Sentence by sentence of the document's promises, with calls whose answers were worked out by hand. */
public final class EdgesTest {
    private static final String ABC = Script.ABC;
    private static final String SIXTY = Script.SIXTY;

    public static void main(String[] args) {
        typing();
        putting();
        taking();
        replacing();
        moving();
        marking();
        commenting();
        writing();
        opening();
        closing();
        undoing();
        doingAgain();
        grouping();
        reading();
        commentsRead();
        cursors();
        onTheWay();
        meeting();
        counting();
        thePast();
        comparing();
        forgetting();
        figures();
        sums();
        Document.end(1, Document.PROMISES);
    }

    // ---- what is typed

    static void typing() {
        Document.says(1, "Creates the hands, without edits, with nothing typed", """
            heard 0 0 = 0; heard 4 4 = 0; onWay 4 = 0; steps 2 = 0; erase = 0; length 3 = 0; kept 3 = 0; groups 0 false = 0
            groups 0 true = 0
            """);
        Document.says(2, "`sign`: the sign", "type a; type #32; type #126; put 0 0 = 3; code 0 0 = 97; code 0 1 = 32; code 0 2 = 126");
        Document.says(2, "Types a sign", "type a; type a; type b; put 4 0; text 4 = aab");
        Document.says(2, "Returns how many are typed then", """
            type a = 1; type a = 2; erase = 2; type b = 1; put 0 0; type c = 1; type d = 2; type e = 3; write 0; type f = 1
            replace 0 0 1; type g = 1; move 0 0 1 0; type h = 2
            """);
        Document.says(2, "if its code is not 32 to 126", """
            type #31 ! IllegalArgument; type #127 ! IllegalArgument; type #0 ! IllegalArgument; type #65535 ! IllegalArgument
            type #10 ! IllegalArgument; type #128 ! IllegalArgument; type #288 ! IllegalArgument; type #32 = 1; type #126 = 2
            type #33 = 3
            """);
        Document.says(2, "if 12 are typed", """
            type abcdefghijk = 11; type l = 12; type m ! IllegalState; type #32 ! IllegalState; type #126 ! IllegalState
            type #31 ! IllegalArgument; put 0 0 = 12; type a = 1; type bcdefghijkl = 12; type m ! IllegalState; erase = 12
            type m = 1
            """);
        Document.says(3, "Takes away what is typed", """
            type abc; erase; put 0 0 ! UnsupportedOperation; type d; put 0 0 = 1; text 0 = d; erase; text 0 = d
            """);
        Document.says(3, "Returns how many signs these were", """
            erase = 0; type a; erase = 1; erase = 0; type abcdefghijkl; erase = 12; type ab; put 0 0; erase = 0
            """);
    }

    // ---- edits

    static void putting() {
        Document.says(4, "Puts the typed signs at a place, as one edit; they are typed no longer", ABC, """
            type xyz; put 0 1 = 6; text 0 = axyzbc; erase = 0; births 0 = 1,2,2,2,1,1; heard 0 0 = 2; groups 0 false = 2
            """);
        Document.says(4, "the place that the first one has then, 0 to the length of its text", """
            type b; put 0 -1 ! NoSuchElement; put 0 1 ! NoSuchElement; put 0 0 = 1; type a; put 0 0 = 2; type cd; put 0 2 = 4
            text 0 = abcd
            type x; put 0 4 = 5; type y; put 0 4 = 6; text 0 = abcdyx
            """);
        Document.says(4, "Returns how long its text is then", ABC, """
            type x; put 0 0 = 4; type yyyy; put 1 3 = 7; type q; put 2 0 = 4; take 2 0 4 = 0; type r; put 2 0 = 1
            """);
        Document.says(4, "there is no such place", ABC, """
            type x; put 0 4 ! NoSuchElement; put 0 -1 ! NoSuchElement; put 0 MAX ! NoSuchElement; put 0 MIN ! NoSuchElement
            put 1 0 = 4; type x; put 1 5 ! NoSuchElement; put 0 4 ! NoSuchElement; put 1 4 = 5; take 1 0 5; type z
            put 1 1 ! NoSuchElement
            """);
        Document.says(4, "nothing is typed", ABC, """
            put 0 0 ! UnsupportedOperation; type x; erase; put 0 3 ! UnsupportedOperation; put 0 4 ! NoSuchElement; type x
            put 0 0
            put 0 0 ! UnsupportedOperation; type x; write 0; put 0 0 ! UnsupportedOperation
            """);
        Document.says(4, "its text would be longer than 60", SIXTY, """
            type x; put 0 0 ! IllegalState; put 0 60 ! IllegalState; put 0 61 ! NoSuchElement; take 0 59 1 = 59; put 0 59 = 60
            type xy
            take 0 0 1 = 59; put 0 0 ! IllegalState; take 0 0 1 = 58; put 0 30 = 60; kept 0 = 63; erase = 0
            """);
        // what others see does not count, nor what is not seen; hearing can make a text longer
        Document.says(4, "its text would be longer than 60", SIXTY, """
            type xyz; put 1 0 = 3; meet 0 1; length 0 = 63; length 1 = 63; type v; put 0 0 ! IllegalState
            put 1 63 ! IllegalState; put 2 0 = 1
            take 0 0 3 = 60; type v; put 0 0 ! IllegalState; take 0 0 60 = 0; erase; type abcdefghijkl; put 0 0 = 12
            """);
        Document.says(4, "its text would be longer than 60", "type abcdefghijkl; put 0 0; type abcdefghijkl; put 0 0; type abcdefghijkl; put 0 0",
            "type abcdefghijkl; put 0 0 = 48; type abcdefghijkl; put 0 0 = 60; kept 0 = 60; undo 0; type abcdefghijkl; put 0 48 = 60");
        // of a text that is longer already: that nothing is typed is documented first
        Document.says(4, "nothing is typed", SIXTY, """
            type x; put 4 0; meet 0 4; length 0 = 61; put 0 0 ! UnsupportedOperation; write 0 ! UnsupportedOperation
            replace 0 0 1 ! UnsupportedOperation; type y; put 0 0 ! IllegalState; write 0 ! IllegalState; put 0 62 ! NoSuchElement
            replace 0 0 1 ! IllegalState; replace 0 0 62 ! NoSuchElement; replace 0 0 2 = 60
            """);
        Document.says(6, "nothing is typed", SIXTY, """
            type xyz; put 4 0; meet 0 4; length 0 = 63; replace 0 0 1 ! UnsupportedOperation; replace 0 0 64 ! NoSuchElement
            """);
        Document.says(4, "the hand has made 40 edits", ABC, """
            times 38 comment 0 0 1 1; type x; put 0 0 = 4; heard 0 0 = 40; type y; put 0 0 ! IllegalState
            put 0 5 ! NoSuchElement; put 1 0 = 4
            put 0 0 ! UnsupportedOperation
            """);
        Document.says(4, "the hand has made 40 edits", "type a; put 4 0;", "undo 4; redo 4;".repeat(19), """
            type x; put 4 1 = 2; heard 4 4 = 40; type y; put 4 0 ! IllegalState; length 4 = 2; put 3 0 = 1
            """);
    }

    /** What take, replace, mark and comment say of the letters that they are told; the rest is what follows them in a call. */
    static void letters(int promise, String name, String rest, String typing) {
        String begin = "type abcde; put 0 0; meetAll; take 0 4 1;" + typing;
        ofLetters(promise, "`place`: the place of the first one", name, rest, begin, """
            NAME 0 -1 1 REST ! NoSuchElement; NAME 0 4 1 REST ! NoSuchElement; NAME 0 MIN 1 REST ! NoSuchElement
            NAME 0 MAX 1 REST ! NoSuchElement; NAME 0 3 1 REST
            """);
        ofLetters(promise, "how many letters, 1 or more", name, rest, begin, """
            NAME 0 0 0 REST ! NoSuchElement; NAME 0 0 -1 REST ! NoSuchElement; NAME 0 0 MIN REST ! NoSuchElement; NAME 0 0 1 REST
            """);
        ofLetters(promise, "many is below 1", name, rest, begin, """
            NAME 0 4 0 REST ! NoSuchElement; NAME 0 3 0 REST ! NoSuchElement; NAME 0 3 MIN REST ! NoSuchElement
            NAME 0 -1 0 REST ! NoSuchElement; NAME 0 9 -9 REST ! NoSuchElement
            """);
        ofLetters(promise, "there are no such letters in its text", name, rest, begin, """
            NAME 0 0 5 REST ! NoSuchElement; NAME 0 3 2 REST ! NoSuchElement; NAME 0 1 4 REST ! NoSuchElement
            NAME 0 4 1 REST ! NoSuchElement; NAME 0 -1 2 REST ! NoSuchElement; NAME 0 1 MAX REST ! NoSuchElement
            NAME 0 MAX MAX REST ! NoSuchElement; NAME 0 MAX 1 REST ! NoSuchElement; NAME 0 MIN MAX REST ! NoSuchElement
            NAME 0 0 MAX REST ! NoSuchElement; NAME 0 0 4 REST
            """);
        ofLetters(promise, "there are no such letters in its text", name, rest, typing, """
            NAME 0 0 1 REST ! NoSuchElement; NAME 0 0 0 REST ! NoSuchElement; meetAll; forget = 0; NAME 0 0 1 REST ! NoSuchElement
            """);
        // what another hand sees does not count
        ofLetters(promise, "there are no such letters in its text", name, rest, begin, """
            NAME 3 0 5 REST; NAME 0 0 5 REST ! NoSuchElement; take 4 0 5 = 0; NAME 4 0 1 REST ! NoSuchElement
            """);
        ofLetters(promise, "the hand has made 40 edits", name, rest, begin, """
            times 38 comment 0 3 1 0; heard 0 0 = 40; NAME 0 0 1 REST ! IllegalState; NAME 0 0 5 REST ! NoSuchElement
            NAME 0 -1 1 REST ! NoSuchElement; NAME 0 0 0 REST ! NoSuchElement; NAME 4 0 1 REST
            """);
        ofLetters(promise, "the hand has made 40 edits", name, rest, begin, """
            times 37 comment 0 3 1 0; NAME 0 0 1 REST; heard 0 0 = 40; groups 0 false = 40
            """);
    }

    static void ofLetters(int promise, String quote, String name, String rest, String begin, String calls) {
        Document.says(promise, quote, begin, calls.replace("NAME", name).replace(" REST", rest));
    }

    static void taking() {
        letters(5, "take", "", "");
        Document.says(5, "Takes letters out, as one edit", ABC, """
            take 0 0 2 = 1; text 0 = c; heard 0 0 = 2; groups 0 false = 2; kept 0 = 3; undo 0 = 1; text 0 = abc; text 4 = abc
            """);
        Document.says(5, "Returns how long its text is then", ABC, """
            take 0 1 1 = 2; text 0 = ac; take 0 0 2 = 0; text 0 = nothing; take 1 0 3 = 0; take 2 2 1 = 2; take 2 0 1 = 1
            """);
        // of a text longer than 60, and with 12 typed
        Document.says(5, "Returns how long its text is then", SIXTY, """
            type x; put 4 0; meet 0 4; type abcdefghijkl; take 0 60 1 = 60; take 4 0 61 = 0; erase = 12
            """);
    }

    static void replacing() {
        letters(6, "replace", "", "type Q;");
        Document.says(6, "Takes letters out and puts the typed signs in their place, as one edit; they are typed no longer", ABC, """
            type xyzw; replace 0 1 1 = 6; text 0 = axyzwc; erase = 0; births 0 = 1,2,2,2,2,1; heard 0 0 = 2; undo 0 = 1
            text 0 = abc; redo 0 = 1
            text 0 = axyzwc
            """);
        Document.says(6, "Returns how long its text is then", ABC, """
            type xy; replace 0 0 3 = 2; type z; replace 0 1 1 = 2; type pqr; replace 0 0 1 = 4; text 0 = pqrz
            """);
        Document.says(6, "nothing is typed", ABC, """
            replace 0 0 1 ! UnsupportedOperation; replace 0 0 4 ! NoSuchElement; replace 0 0 0 ! NoSuchElement; type x
            replace 0 0 1 = 3
            replace 0 0 1 ! UnsupportedOperation; type x; erase; replace 0 2 1 ! UnsupportedOperation
            """);
        Document.says(6, "its text would be longer than 60", SIXTY, """
            type xy; replace 0 0 1 ! IllegalState; replace 0 59 1 ! IllegalState; replace 0 0 61 ! NoSuchElement
            replace 0 0 2 = 60
            type xyz; replace 0 58 2 ! IllegalState; replace 0 57 3 = 60; type abcdefghijkl; replace 0 20 11 ! IllegalState
            replace 0 20 12 = 60
            take 0 0 1; type z; replace 0 0 1 = 59; type zz; replace 0 0 1 = 60; type z; replace 0 0 60 = 1
            """);
        Document.says(6, "its text would be longer than 60", SIXTY, """
            type xyz; put 1 0; meet 0 1; length 0 = 63; type v; replace 0 0 1 ! IllegalState; replace 0 0 3 ! IllegalState
            replace 0 0 4 = 60
            type v; replace 1 0 63 = 1
            """);
        Document.says(6, "the hand has made 40 edits", ABC, """
            times 39 comment 0 0 1 1; replace 0 0 1 ! UnsupportedOperation; type x; replace 0 0 1 ! IllegalState
            replace 1 0 1 = 3
            """);
    }

    static void moving() {
        Document.says(7, "Moves letters, as one edit, by which they are taken out, and new ones with the same signs are put", """
            type abcde; put 0 0; move 0 1 2 0 = -1; text 0 = bcade; births 0 = 2,2,1,1,1; kept 0 = 7; heard 0 0 = 2; erase = 0
            groups 0 false = 2
            undo 0 = 1; text 0 = abcde; redo 0 = 1; text 0 = bcade; move 0 0 3 2 = 2; text 0 = debca; births 0 = 1,1,5,5,5
            """);
        Document.says(7, "what was told of the old ones alone stays with these", ABC, """
            mark 0 1 1 b true false; mark 0 1 1 i true true; comment 0 1 1 5; setCursor 0 2; move 0 1 1 2 = 1; text 0 = acb
            marks 0 b = 000
            marks 0 i = 000; hung 0 = none; cursor 0 = 1; undo 0; marks 0 b = 010; hung 0 = 4:1-1:5; cursor 0 = 2; redo 0
            mark 0 0 3 b true false; move 0 1 1 1 = 0; marks 0 b = 111; move 0 1 1 0 = -1; text 0 = cab; marks 0 b = 011
            """);
        Document.says(7, "`place`: the place of the first one", ABC, """
            move 0 -1 1 0 ! NoSuchElement; move 0 3 1 0 ! NoSuchElement; move 0 MAX 1 0 ! NoSuchElement
            move 0 MIN 1 0 ! NoSuchElement; move 0 2 1 0 = -2; text 0 = cab; move 0 0 1 2 = 2; text 0 = abc
            """);
        Document.says(7, "how many letters, 1 or more", ABC, """
            move 0 0 0 0 ! NoSuchElement; move 0 0 -1 0 ! NoSuchElement; move 0 0 MIN 0 ! NoSuchElement; move 0 0 1 1 = 1
            move 0 0 3 0 = 0
            """);
        Document.says(7, "many is below 1", ABC, """
            move 0 0 0 0 ! NoSuchElement; move 0 3 0 0 ! NoSuchElement; move 0 0 MIN MAX ! NoSuchElement
            move 0 1 -1 2 ! NoSuchElement
            """);
        Document.says(7, "there are no such letters in its text", ABC, """
            move 0 0 4 0 ! NoSuchElement; move 0 2 2 0 ! NoSuchElement; move 0 3 1 0 ! NoSuchElement
            move 0 1 MAX 0 ! NoSuchElement
            move 0 MAX MAX 0 ! NoSuchElement; move 0 -1 1 0 ! NoSuchElement; type x; put 1 3; move 0 3 1 0 ! NoSuchElement
            move 1 3 1 0 = -3
            take 2 0 3; move 2 0 1 0 ! NoSuchElement
            """);
        Document.says(7, "the place that the first one has then, 0 to as many as are left without them", """
            type abcde; put 0 0; move 0 1 2 4 ! NoSuchElement; move 0 1 2 -1 ! NoSuchElement; move 0 1 2 3 = 2; text 0 = adebc
            move 0 3 2 3 = 0
            text 0 = adebc; move 0 3 2 0 = -3; text 0 = bcade; move 0 0 2 4 ! NoSuchElement; move 0 0 2 1 = 1; text 0 = abcde
            move 0 2 1 2 = 0
            move 0 2 1 5 ! NoSuchElement; move 0 2 1 4 = 2; text 0 = abdec; move 0 0 4 1 = 1; text 0 = cabde
            """);
        Document.says(7, "there is no such place", ABC, """
            move 0 0 3 1 ! NoSuchElement; move 0 0 3 -1 ! NoSuchElement; move 0 0 3 0 = 0; move 0 0 2 2 ! NoSuchElement
            move 0 2 1 3 ! NoSuchElement
            move 0 0 1 MAX ! NoSuchElement; move 0 0 1 MIN ! NoSuchElement; move 0 0 1 3 ! NoSuchElement; text 0 = abc
            """);
        Document.says(7, "Returns how many places the first one has gone on, below 0 if back", """
            type abcdef; put 0 0; move 0 0 1 5 = 5; text 0 = bcdefa; move 0 5 1 0 = -5; text 0 = abcdef; move 0 2 2 3 = 1
            text 0 = abecdf
            move 0 3 2 3 = 0; move 0 3 2 2 = -1; text 0 = abcdef; move 0 0 6 0 = 0; text 0 = abcdef; births 0 = 7,7,7,7,7,7
            """);
        // no sentence bounds its text, nor needs signs that are typed
        Document.says(7, "Throws `IllegalStateException` if the hand has made 40 edits", SIXTY, """
            type x; put 4 0; meet 0 4; length 0 = 61; move 0 0 61 0 = 0; move 0 60 1 0 = -60; length 0 = 61; type ab
            move 0 1 1 60 = 59; erase = 2
            """);
        Document.says(7, "the hand has made 40 edits", ABC, """
            times 38 comment 0 0 1 1; move 0 0 1 2 = 2; text 0 = bca; move 0 0 1 2 ! IllegalState; move 0 0 3 0 ! IllegalState
            move 0 0 1 3 ! NoSuchElement; move 0 0 4 0 ! NoSuchElement; move 0 0 0 0 ! NoSuchElement; move 3 0 1 2 = 2
            """);
    }

    static void marking() {
        letters(8, "mark", " b true true", "");
        letters(8, "mark", " i false false", "");
        Document.says(8, "Marks letters, or takes a mark from them, as one edit", ABC, """
            mark 0 0 2 b true false; marks 0 b = 110; text 0 = abc; mark 0 1 2 b false false; marks 0 b = 100; heard 0 0 = 3
            groups 0 false = 3
            undo 0 = 1; marks 0 b = 110; undo 0 = 1; marks 0 b = 000; kept 0 = 3
            """);
        Document.says(8, "`kind`: 'b' or 'i'", ABC, """
            mark 0 0 1 b true false; mark 0 2 1 i true false; marks 0 b = 100; marks 0 i = 001; mark 0 0 3 b false false
            marks 0 i = 001
            """);
        Document.says(8, "`isOn`: whether they get the mark", ABC, """
            mark 0 1 1 i true true; marks 0 i = 010; mark 0 0 3 i false true; marks 0 i = 000; mark 0 2 1 i true false
            marks 0 i = 001
            """);
        Document.says(8, "`isGrowing`: whether what is put at the end gets it, too", ABC, """
            mark 0 0 1 b true true; mark 0 0 1 i true false; type x; put 0 1; text 0 = axbc; marks 0 b = 1100
            marks 0 i = 1000
            mark 0 3 1 i true true; mark 0 3 1 b true false; type y; put 0 4; text 0 = axbcy; marks 0 i = 10011
            marks 0 b = 11010
            mark 0 0 5 b true false; mark 0 1 1 b false true; type z; put 0 2; text 0 = axzbcy; marks 0 b = 100111; type w
            put 0 0; marks 0 b = 0100111
            """);
        Document.says(8, "Returns the number of the edit", ABC, """
            mark 0 0 1 b true false = 2; mark 4 0 1 b true false = 1; mark 4 0 1 i false true = 2; undo 4
            mark 4 0 1 b true true = 4; times 35 comment 4 0 1 1; mark 4 2 1 i true true = 40; mark 0 0 3 b true true = 3
            """);
        Document.says(8, "there is no such kind", ABC, """
            mark 0 0 1 a true false ! IllegalArgument; mark 0 0 1 c true false ! IllegalArgument
            mark 0 0 1 h true false ! IllegalArgument
            mark 0 0 1 j true false ! IllegalArgument; mark 0 0 1 B true false ! IllegalArgument
            mark 0 0 1 I true false ! IllegalArgument
            mark 0 0 1 #0 true false ! IllegalArgument; mark 0 0 1 #354 true true ! IllegalArgument
            mark 0 0 1 #65535 true false ! IllegalArgument
            mark 0 0 0 a true false ! IllegalArgument; mark 0 3 1 a true false ! IllegalArgument
            mark 5 0 1 a true true ! IndexOutOfBounds
            times 39 comment 0 0 1 1; mark 0 0 1 a true false ! IllegalArgument; mark 0 0 1 b true false ! IllegalState
            """);
    }

    static void commenting() {
        letters(9, "comment", " 7", "");
        Document.says(9, "Hangs a comment on letters, as one edit", ABC, """
            comment 0 1 2 5; hung 0 = 2:1-2:5; text 0 = abc; heard 0 0 = 2; groups 0 false = 2; undo 0 = 1; hung 0 = none
            """);
        Document.says(9, "`code`: what it tells, any number", ABC, """
            comment 0 0 1 0; comment 0 0 1 -1; comment 0 0 1 MIN; comment 0 0 1 MAX; comment 0 0 1 1; commentAt 0 0 c = 0
            commentAt 0 1 c = -1
            commentAt 0 2 c = -2147483648; commentAt 0 3 c = 2147483647; commentAt 0 4 c = 1
            """);
        Document.says(9, "Returns the number of the comment: 100 times the hand, plus the number of the edit", ABC, """
            comment 0 0 1 9 = 2; comment 1 0 1 9 = 101; comment 4 0 1 9 = 401; undo 4; comment 4 2 1 9 = 403
            times 36 comment 4 0 1 1
            comment 4 0 3 1 = 440; comment 0 0 1 9 = 3
            """);
    }

    static void writing() {
        Document.says(10, "Puts the typed signs at the place of the hand's cursor, as put() does, and the cursor behind them", """
            type ad; write 0 = 2; text 0 = ad; erase = 0; births 0 = 1,1; setCursor 0 1 = 2; type bc; write 0 = 3
            text 0 = abcd; cursor 0 = 3
            type e; put 0 3; text 0 = abced; cursor 0 = 3; type f; write 0 = 4; text 0 = abcfed; groups 0 false = 4
            undo 0 = 1; cursor 0 = 3
            """);
        Document.says(10, "Returns the place of the cursor then", ABC, """
            type x; write 0 = 1; text 0 = xabc; type yz; write 0 = 3; text 0 = xyzabc; setCursor 0 6 = 3; type w; write 0 = 7
            setCursor 0 0
            type v; write 0 = 1; text 0 = vxyzabcw; type q; write 4 = 1; text 4 = qabc
            """);
        // a cursor behind a letter that is not seen
        Document.says(10, "Puts the typed signs at the place of the hand's cursor", ABC, """
            setCursor 0 2; take 0 1 1; cursor 0 = 1; type x; write 0 = 2; text 0 = axc; undo 0; undo 0; text 0 = abc
            cursor 0 = 1; type y; write 0 = 2
            text 0 = aybc; setCursor 1 2; take 1 0 3 = 0; cursor 1 = 0; type z; write 1 = 1; text 1 = z; type z; write 1 = 2
            """);
        Document.says(10, "nothing is typed", """
            write 0 ! UnsupportedOperation; type a; erase; write 0 ! UnsupportedOperation; type a; write 0 = 1
            write 0 ! UnsupportedOperation
            times 39 comment 0 0 1 1; write 0 ! UnsupportedOperation; write 5 ! IndexOutOfBounds
            """);
        Document.says(10, "its text would be longer than 60", SIXTY, """
            write 0 ! UnsupportedOperation; type x; write 0 ! IllegalState; setCursor 0 60; write 0 ! IllegalState
            take 0 59 1 = 59; write 0 = 60
            take 0 0 1 = 59; cursor 0 = 59; type ab; write 0 ! IllegalState; write 1 = 2; meet 1 0; length 1 = 61; type c
            write 1 ! IllegalState
            """);
        Document.says(10, "the hand has made 40 edits", ABC, """
            times 38 comment 0 0 1 1; type x; write 0 = 1; heard 0 0 = 40; type y; write 0 ! IllegalState; cursor 0 = 1
            write 1 = 1; cursor 1 = 1
            """);
    }

    static void opening() {
        Document.says(11, "Opens a group of a hand", """
            open 3; type a; put 3 0; type b; put 3 1; groups 3 false = 1; type c; put 4 0; type d; put 4 0; groups 4 false = 2
            close 3 = 2
            undo 3 = 2; text 3 = nothing; close 4 ! IllegalState
            """);
        Document.says(11, "Returns how many groups the hand can undo", """
            open 0 = 0; close 0; type a; put 0 0; open 0 = 1; comment 0 0 1 1; comment 0 0 1 1; close 0; open 0 = 2; close 0
            comment 0 0 1 1; open 0 = 3
            undo 0; open 0 = 2; close 0 = 0; open 1 = 0; undo 0; undo 0; open 0 = 0; redo 0; open 0 = 1
            """);
        Document.says(11, "one is open", """
            open 0 = 0; open 0 ! IllegalState; type a; put 0 0; open 0 ! IllegalState; open 1 = 0; open 1 ! IllegalState
            close 0 = 1; open 0 = 1
            open 0 ! IllegalState; undo 0; open 0 = 0; open 0 ! IllegalState; redo 0; open 0 = 1; open 0 ! IllegalState
            meetAll; forget; open 0 = 0
            open 0 ! IllegalState
            """);
        // no sentence bounds that by edits
        Document.says(11, "Returns how many groups the hand can undo", ABC, """
            times 39 comment 0 0 1 1; open 0 = 40; comment 0 0 1 1 ! IllegalState; close 0 = 0; open 0 = 40
            """);
    }

    static void closing() {
        Document.says(12, "Closes the group of a hand", """
            open 0; type a; put 0 0; close 0; comment 0 0 1 1; groups 0 false = 2; undo 0 = 1; open 2; open 3; close 2 = 0
            close 3 = 0
            """);
        Document.says(12, "Returns how many edits were made in it", """
            open 0; close 0 = 0; open 0; type a; put 0 0; close 0 = 1; open 0; comment 0 0 1 1; comment 0 0 1 1
            mark 0 0 1 b true true; type b; put 1 0
            meet 1 0; close 0 = 3; open 1; close 1 = 0
            """);
        Document.says(12, "Returns how many edits were made in it", """
            open 0; type a; put 0 0; times 39 comment 0 0 1 1; groups 0 false = 1; close 0 = 40; heard 0 0 = 40
            """);
        Document.says(12, "none is open", """
            close 0 ! IllegalState; open 1; close 0 ! IllegalState; close 1 = 0; close 1 ! IllegalState; type a; put 0 0
            close 0 ! IllegalState
            open 0; undo 0; close 0 ! IllegalState; open 0; redo 0; close 0 ! IllegalState; open 0; meetAll; forget
            close 0 ! IllegalState
            """);
    }

    static void undoing() {
        Document.says(13, "Undoes the latest group of a hand that it can undo, as one edit", ABC, """
            open 0; type x; put 0 3; take 0 0 1; close 0; undo 0; text 0 = abc; heard 0 0 = 4; way 1 = 1,2,3,4; meet 0 1
            text 1 = abc; undo 0
            text 0 = nothing; text 1 = abc; heard 0 0 = 5
            """);
        Document.says(13, "Returns how many edits the group has", ABC, """
            comment 0 0 1 1; undo 0 = 1; open 0; comment 0 0 1 1; comment 0 0 1 1; undo 0 = 2; open 0; comment 0 0 1 1
            close 0; undo 0 = 1; undo 0 = 1
            """);
        Document.says(13, "Returns how many edits the group has", """
            open 2; type a; put 2 0; times 38 comment 2 0 1 1; undo 2 = 39; heard 2 2 = 40; text 2 = nothing
            """);
        Document.says(13, "it can undo none", """
            undo 0 ! NoSuchElement; open 0; undo 0 ! NoSuchElement; close 0 = 0; type a; put 0 0; undo 1 ! NoSuchElement
            undo 0 = 1
            undo 0 ! NoSuchElement; open 0; undo 0 ! NoSuchElement; close 0 = 0; redo 0; meetAll; undo 1 ! NoSuchElement
            forget
            undo 0 ! NoSuchElement; comment 0 0 1 1; undo 0 = 1; undo 0 ! NoSuchElement
            """);
        Document.says(13, "the hand has made 40 edits", ABC, """
            times 38 comment 0 0 1 1; undo 0 = 1; heard 0 0 = 40; comments 0 = 37; undo 0 ! IllegalState; open 0
            undo 0 ! IllegalState; close 0 = 0
            comments 0 = 37; take 1 0 1; undo 1 = 1
            """);
        // all are undone, or none is left behind forget(): none can be undone is documented first
        Document.says(13, "the hand has made 40 edits", ABC, """
            times 39 comment 0 0 1 1; meetAll; forget = 0; undo 0 ! NoSuchElement; redo 0 ! NoSuchElement
            comment 0 0 1 1 ! IllegalState
            """);
    }

    static void doingAgain() {
        Document.says(14, "Does the group again that a hand undid last, of those that it can do again, as one edit", ABC, """
            open 0; type x; put 0 3; take 0 0 1; close 0; undo 0; undo 0; text 0 = nothing; redo 0; text 0 = abc; redo 0
            text 0 = bcx; heard 0 0 = 7
            way 1 = 1,2,3,4,5,6,7; meet 0 1; text 1 = bcx
            """);
        Document.says(14, "Returns how many edits the group has", ABC, """
            comment 0 0 1 1; open 0; comment 0 0 1 1; comment 0 0 1 1; undo 0 = 2; undo 0 = 1; redo 0 = 1; redo 0 = 2
            """);
        Document.says(14, "Returns how many edits the group has", """
            open 2; type a; put 2 0; times 37 comment 2 0 1 1; undo 2 = 38; redo 2 = 38; heard 2 2 = 40; text 2 = a
            """);
        Document.says(14, "it can do none again", """
            redo 0 ! NoSuchElement; open 0; redo 0 ! NoSuchElement; close 0 = 0; type a; put 0 0; redo 0 ! NoSuchElement
            undo 0; redo 1 ! NoSuchElement
            redo 0 = 1; redo 0 ! NoSuchElement; undo 0; type b; put 0 0; redo 0 ! NoSuchElement; undo 0 = 1; open 0; type c
            write 0
            redo 0 ! NoSuchElement; close 0 = 1; undo 0; meetAll; forget = 3; redo 0 ! NoSuchElement
            """);
        Document.says(14, "the hand has made 40 edits", ABC, """
            times 37 comment 0 0 1 1; undo 0; undo 0; heard 0 0 = 40; redo 0 ! IllegalState; open 0; redo 0 ! IllegalState
            close 0 = 0
            groups 0 true = 2; redo 1 ! NoSuchElement
            """);
        Document.says(14, "the hand has made 40 edits", ABC, """
            times 37 comment 0 0 1 1; undo 0; redo 0 = 1; heard 0 0 = 40; redo 0 ! NoSuchElement; undo 0 ! IllegalState
            """);
    }

    static void grouping() {
        Document.says(15, "Returns how many groups a hand can undo, an open one counted if it has edits, or do again", """
            groups 0 false = 0; open 0; groups 0 false = 0; type a; put 0 0; groups 0 false = 1; comment 0 0 1 1
            groups 0 false = 1; close 0
            groups 0 false = 1; comment 0 0 1 1; groups 0 false = 2; undo 0; groups 0 false = 1; undo 0; groups 0 false = 0
            """);
        Document.says(15, "`isUndone`: whether those that it can do again", ABC, """
            groups 0 true = 0; take 0 0 1; undo 0; groups 0 true = 1; groups 0 false = 1; undo 0; groups 0 true = 2; open 0
            groups 0 true = 2; redo 0
            groups 0 true = 1; groups 0 false = 1; groups 1 true = 0; groups 1 false = 0
            """);
        Document.says(15, "Returns how many.", ABC, """
            undo 0; groups 0 true = 1; type x; put 0 0; groups 0 true = 0; times 37 comment 0 0 1 1; groups 0 false = 38
            heard 0 0 = 40
            meetAll; groups 0 false = 38; forget; groups 0 false = 0; groups 0 true = 0
            """);
    }

    // ---- texts

    static void reading() {
        Document.says(16, "Returns how long the text of a hand is", ABC, """
            length 0 = 3; length 4 = 3; take 4 0 1; length 4 = 2; length 0 = 3; take 4 0 2; length 4 = 0; undo 4; length 4 = 2
            """);
        Document.says(16, "Returns how many letters it sees", """
            length 0 = 0; type a; length 0 = 0; put 1 0; length 1 = 1; length 0 = 0; meet 0 1; length 0 = 1; undo 1
            length 0 = 1; length 1 = 0
            """);
        Document.says(17, "Returns a sign of a text", ABC, """
            signAt 0 0 = a; signAt 0 2 = c; signAt 4 1 = b; move 4 0 1 2; signAt 4 2 = a; signAt 4 0 = b
            """);
        Document.says(17, "`place`: its place", ABC, """
            signAt 0 3 ! NoSuchElement; signAt 0 -1 ! NoSuchElement; signAt 0 MIN ! NoSuchElement
            signAt 0 MAX ! NoSuchElement
            """);
        Document.says(17, "Returns the sign.", "type #126; put 0 0; type #32; put 0 0; code 0 0 = 32; code 0 1 = 126");
        Document.says(17, "there is no such place", """
            signAt 0 0 ! NoSuchElement; type a; put 0 0; signAt 0 0 = a; signAt 1 0 ! NoSuchElement; take 0 0 1
            signAt 0 0 ! NoSuchElement
            """);
        Document.says(18, "Returns by which edit a letter was put", ABC, """
            type x; put 4 3; comment 4 0 1 1; type y; put 4 0; births 4 = 403,1,1,1,401; meet 4 0; births 0 = 403,1,1,1,401
            """);
        Document.says(18, "`place`: its place", ABC, """
            birth 0 3 ! NoSuchElement; birth 0 -1 ! NoSuchElement; birth 0 MIN ! NoSuchElement; birth 0 MAX ! NoSuchElement
            birth 0 0 = 1; birth 0 2 = 1
            """);
        Document.says(18, "Returns 100 times the hand that put it, plus the number of the edit", ABC, """
            times 39 comment 4 0 1 1; type x; put 4 0; birth 4 0 = 440; birth 4 1 = 1; type y; put 0 0; birth 0 0 = 2
            move 0 1 1 3; birth 0 3 = 3
            """);
        Document.says(18, "there is no such place", """
            birth 0 0 ! NoSuchElement; type a; put 1 0; birth 0 0 ! NoSuchElement; birth 1 0 = 101; birth 1 1 ! NoSuchElement
            """);
        Document.says(19, "Tells whether a letter has a mark", ABC, """
            mark 0 1 1 b true false; isMarked 0 1 b = true; isMarked 0 0 b = false; isMarked 0 2 b = false
            isMarked 1 1 b = false
            """);
        Document.says(19, "`place`: its place", ABC, """
            isMarked 0 0 b = false; isMarked 0 2 i = false; isMarked 0 3 b ! NoSuchElement; isMarked 0 -1 i ! NoSuchElement
            isMarked 0 MAX b ! NoSuchElement; isMarked 0 MIN b ! NoSuchElement
            """);
        Document.says(19, "`kind`: 'b' or 'i'", ABC, """
            mark 0 0 3 i true true; isMarked 0 0 i = true; isMarked 0 0 b = false; mark 0 0 3 b true true
            isMarked 0 0 b = true; isMarked 0 0 i = true
            """);
        Document.says(19, "Returns whether it has.", ABC, """
            mark 0 0 3 i true true; mark 0 1 1 i false false; marks 0 i = 101; undo 0; marks 0 i = 111; undo 0
            marks 0 i = 000
            """);
        Document.says(19, "there is no such kind", ABC, """
            isMarked 0 0 a ! IllegalArgument; isMarked 0 0 c ! IllegalArgument; isMarked 0 0 h ! IllegalArgument
            isMarked 0 0 j ! IllegalArgument
            isMarked 0 0 B ! IllegalArgument; isMarked 0 0 #0 ! IllegalArgument; isMarked 0 0 #65535 ! IllegalArgument
            isMarked 0 3 x ! IllegalArgument
            isMarked 5 0 x ! IndexOutOfBounds
            """);
        Document.says(19, "there is no such place", """
            isMarked 0 0 b ! NoSuchElement; isMarked 0 0 x ! IllegalArgument; type a; put 0 0; isMarked 0 0 b = false
            isMarked 0 1 i ! NoSuchElement
            """);
        Document.says(20, "Returns how many runs of letters a text has: of letters beside each other that have the same marks", """
            type abcdef; put 0 0; runs 0 = 1; mark 0 2 2 b true false; runs 0 = 3; mark 0 2 2 i true false; runs 0 = 3
            mark 0 3 1 b false false; runs 0 = 4
            mark 0 3 1 b true false; runs 0 = 3; mark 0 0 6 b true false; runs 0 = 3; mark 0 0 6 i true false; runs 0 = 1
            mark 0 0 1 b false false
            mark 0 0 1 i false false; mark 0 5 1 b false false; runs 0 = 3; take 0 0 1; runs 0 = 2; type x; put 0 2
            births 0 = 1,1,12,1,1,1; runs 0 = 2
            """);
        // letters of other edits, or with a taken one between them, are one run if their marks are the same
        Document.says(20, "Returns how many, 0 without letters", ABC, """
            type x; put 0 1; type y; put 1 3; meetAll; text 0 = axbcy; runs 0 = 1; mark 0 2 1 b true false; runs 0 = 3
            take 0 2 1; runs 0 = 1; take 0 0 4
            runs 0 = 0; runs 1 = 1
            """);
        Document.says(20, "Returns how many, 0 without letters", """
            runs 0 = 0; type a; put 0 0; runs 0 = 1; runs 4 = 0; undo 0; runs 0 = 0
            """);
    }

    static void commentsRead() {
        Document.says(21, "Returns how many comments hang on letters that a hand sees", ABC, """
            comments 0 = 0; comment 0 0 1 1; comment 0 0 1 1; comment 0 0 3 1; comments 0 = 3; comments 1 = 0; take 0 0 1
            comments 0 = 1; take 0 0 2
            comments 0 = 0; undo 0; comments 0 = 1; undo 0; comments 0 = 3; undo 0; comments 0 = 2; meetAll; comments 4 = 2
            """);
        Document.says(21, "Returns how many.", ABC, """
            comment 0 1 1 1; take 1 1 1; comments 1 = 0; meet 0 1; comments 0 = 0; comments 1 = 0; undo 1; comments 1 = 1
            meet 0 1; comments 0 = 1
            """);
        Document.says(21, "Returns how many.", """
            type a; put 0 0; meetAll; times 39 comment 0 0 1 1; times 40 comment 3 0 1 2; times 40 comment 4 0 1 3; meet 3 4
            comments 4 = 80; meet 0 4; comments 0 = 119; commentAt 0 118 n = 440; commentAt 0 0 n = 2; commentAt 0 39 n = 301
            commentAt 0 119 n ! NoSuchElement
            """);
        Document.says(22, "Returns something of a comment", ABC, """
            comment 3 1 2 -8; commentAt 3 0 n = 301; commentAt 3 0 f = 1; commentAt 3 0 l = 2; commentAt 3 0 c = -8
            """);
        Document.says(22, "its place among these, by their first letters, of like ones by their numbers", """
            type abcdef; put 0 0; meetAll; comment 2 3 2 11; comment 1 1 3 22; comment 1 3 1 33; comment 0 3 3 44; meetAll
            hung 4 = 101:1-3:22,2:3-5:44,102:3-3:33,201:3-4:11; take 4 1 2; hung 4 = 2:1-3:44,101:1-1:22,102:1-1:33,201:1-2:11
            take 4 1 1; hung 4 = 2:1-2:44,201:1-1:11; commentAt 4 2 n ! NoSuchElement; undo 4; undo 4; comment 4 0 1 5
            hung 4 = 405:0-0:5,101:1-3:22,2:3-5:44,102:3-3:33,201:3-4:11
            """);
        Document.says(22, "'n' its number, 'f' the place of its first letter, 'l' that of its last one, 'c' its code", """
            type abcde; put 0 0; comment 0 1 3 6; type x; put 0 0; type y; put 0 3; hung 0 = 2:2-5:6; take 0 2 1
            hung 0 = 2:2-4:6; take 0 4 1; hung 0 = 2:2-3:6
            take 0 3 1; text 0 = xaye; hung 0 = 2:2-2:6
            """);
        Document.says(22, "Returns the number.", ABC, """
            comment 0 2 1 MAX; commentAt 0 0 n = 2; commentAt 0 0 f = 2; commentAt 0 0 l = 2; commentAt 0 0 c = 2147483647
            """);
        Document.says(22, "there is no such comment", ABC, """
            commentAt 0 0 n ! NoSuchElement; commentAt 0 0 x ! NoSuchElement; comment 0 0 1 1; comment 0 0 1 1
            commentAt 0 1 n = 3
            commentAt 0 2 n ! NoSuchElement; commentAt 0 2 x ! NoSuchElement; commentAt 0 -1 n ! NoSuchElement
            commentAt 0 MAX f ! NoSuchElement
            commentAt 0 MIN l ! NoSuchElement; commentAt 1 0 c ! NoSuchElement; take 0 0 1; commentAt 0 0 n ! NoSuchElement
            """);
        Document.says(22, "there is no such letter", ABC, """
            comment 0 0 1 1; commentAt 0 0 x ! IllegalArgument; commentAt 0 0 N ! IllegalArgument
            commentAt 0 0 m ! IllegalArgument; commentAt 0 0 o ! IllegalArgument
            commentAt 0 0 b ! IllegalArgument; commentAt 0 0 d ! IllegalArgument; commentAt 0 0 e ! IllegalArgument
            commentAt 0 0 g ! IllegalArgument
            commentAt 0 0 k ! IllegalArgument; commentAt 0 0 #0 ! IllegalArgument; commentAt 0 0 #65535 ! IllegalArgument
            commentAt 5 0 x ! IndexOutOfBounds
            """);
    }

    static void cursors() {
        Document.says(23, "Sets the cursor of a hand behind the letter ahead of a place, or behind the begin", ABC, """
            setCursor 0 1; type x; put 0 1; text 0 = axbc; cursor 0 = 1; setCursor 0 0; type y; put 0 0; cursor 0 = 0
            cursor 1 = 0; setCursor 1 3; cursor 1 = 3
            type z; put 1 3; cursor 1 = 3; type w; put 1 2; text 1 = abwcz; cursor 1 = 4
            """);
        Document.says(23, "the place, 0 to the length of its text", ABC, """
            setCursor 0 0 = 0; setCursor 0 3 = 0; setCursor 0 4 ! NoSuchElement; setCursor 0 -1 ! NoSuchElement; cursor 0 = 3
            setCursor 0 2 = 3
            """);
        Document.says(23, "Returns the place at which it stood", ABC, """
            setCursor 0 3 = 0; setCursor 0 1 = 3; type x; put 0 0; setCursor 0 4 = 2; take 0 2 2; setCursor 0 0 = 2
            setCursor 0 0 = 0
            """);
        Document.says(23, "there is no such place", """
            setCursor 0 1 ! NoSuchElement; setCursor 0 0 = 0; setCursor 0 MAX ! NoSuchElement; setCursor 0 MIN ! NoSuchElement
            type ab; put 1 0
            setCursor 0 1 ! NoSuchElement; setCursor 1 2 = 0; take 1 0 1; setCursor 1 2 ! NoSuchElement; setCursor 1 1 = 1
            """);
        Document.says(24, "Returns the place of the cursor of a hand", ABC, """
            cursor 0 = 0; setCursor 0 2; cursor 0 = 2; cursor 1 = 0; take 0 0 1; cursor 0 = 1; take 0 0 1; cursor 0 = 0
            undo 0; cursor 0 = 1
            """);
        Document.says(24, "Returns the place.", ABC, """
            setCursor 2 3; type xy; put 1 0; meet 1 2; cursor 2 = 5; type z; write 2 = 6; undo 2; cursor 2 = 5; redo 2
            cursor 2 = 6
            """);
    }

    // ---- on the way

    static void onTheWay() {
        Document.says(25, "Returns how many edits are on the way to a hand", """
            onWay 0 = 0; type a; put 0 0; onWay 0 = 0; onWay 1 = 1; onWay 4 = 1; undo 0; onWay 4 = 2; meet 0 4; onWay 4 = 2
            deliver 4 0; onWay 4 = 1; lose 4 0; onWay 4 = 0
            """);
        Document.says(25, "Returns how many.", ABC, """
            times 39 comment 0 0 1 1; times 40 comment 1 0 1 1; times 40 comment 2 0 1 1; times 40 comment 4 0 1 1
            onWay 3 = 160; onWay 0 = 120; repeat 3 0 = 161
            """);
        Document.says(26, "Returns an edit that is on the way to a hand", """
            type a; put 0 0; type b; put 2 0; comment 0 0 1 1; wayAt 1 0 = 1; wayAt 1 1 = 201; wayAt 1 2 = 2; wayAt 0 0 = 201
            """);
        Document.says(26, "`index`: from 0", "type a; put 0 0; wayAt 1 0 = 1; wayAt 1 1 ! NoSuchElement; wayAt 1 -1 ! NoSuchElement");
        Document.says(26, "Returns 100 times the hand that made it, plus its number", """
            type a; put 4 0; times 39 comment 4 0 1 1; wayAt 0 0 = 401; wayAt 0 39 = 440; wayAt 0 40 ! NoSuchElement
            """);
        Document.says(26, "there is no such edit", """
            wayAt 0 0 ! NoSuchElement; wayAt 0 -1 ! NoSuchElement; type a; put 0 0; wayAt 0 0 ! NoSuchElement; wayAt 1 0 = 1
            wayAt 1 1 ! NoSuchElement
            wayAt 1 MAX ! NoSuchElement; wayAt 1 MIN ! NoSuchElement; lose 1 0; wayAt 1 0 ! NoSuchElement
            """);
        Document.says(27, "Delivers an edit", """
            type a; put 0 0; comment 0 0 1 3; deliver 1 0; heard 1 0 = 1; text 1 = a; hung 1 = none; way 1 = 2; deliver 1 0
            hung 1 = 2:0-0:3; way 1 = none; heard 2 0 = 0
            """);
        Document.says(27, "`index`: which one of those that are on the way to the hand", """
            type a; put 0 0; type b; put 1 0; type c; put 2 0; way 3 = 1,101,201; deliver 3 1 = h; way 3 = 1,201; text 3 = b
            deliver 3 1 = h; way 3 = 1
            text 3 = cb; deliver 3 1 ! NoSuchElement; deliver 3 0 = h; text 3 = cba
            """);
        Document.says(27, "Returns 'h' if it was heard, 'w' if it waits, 'k' if it was known: heard or waiting already", """
            type a; put 0 0; type b; put 0 1; repeat 1 0; repeat 1 1; repeat 1 1; way 1 = 1,2,1,2,2; deliver 1 1 = w
            deliver 1 2 = k; waiting 1 = 1
            heard 1 0 = 0; deliver 1 0 = h; heard 1 0 = 2; waiting 1 = 0; deliver 1 0 = k; deliver 1 0 = k; onWay 1 = 0
            steps 1 = 2
            meet 0 4; deliver 4 1 = k; deliver 4 0 = k; steps 4 = 2
            """);
        Document.says(27, "there is no such edit", """
            deliver 0 0 ! NoSuchElement; type a; put 0 0; deliver 0 0 ! NoSuchElement; deliver 1 1 ! NoSuchElement
            deliver 1 -1 ! NoSuchElement
            deliver 1 MAX ! NoSuchElement; deliver 1 MIN ! NoSuchElement; deliver 1 0 = h; deliver 1 0 ! NoSuchElement
            """);
        Document.says(28, "Puts an edit that is on the way to a hand on the way there once more, behind all others", """
            type a; put 0 0; type b; put 0 0; type c; put 0 0; repeat 1 1; way 1 = 1,2,3,2; repeat 1 3; way 1 = 1,2,3,2,2
            repeat 1 0; way 1 = 1,2,3,2,2,1; way 2 = 1,2,3
            """);
        Document.says(28, "`index`: which one", """
            type a; put 0 0; type b; put 1 0; repeat 2 0 = 3; repeat 2 1 = 4; repeat 2 2 = 5; way 2 = 1,101,1,101,1
            repeat 2 5 ! NoSuchElement
            """);
        Document.says(28, "Returns how many are on the way then", """
            type a; put 0 0; repeat 1 0 = 2; repeat 1 1 = 3; onWay 1 = 3; onWay 2 = 1; lose 1 0 = 2; repeat 1 0 = 3
            """);
        Document.says(28, "there is no such edit", """
            repeat 0 0 ! NoSuchElement; type a; put 0 0; repeat 0 0 ! NoSuchElement; repeat 1 1 ! NoSuchElement
            repeat 1 -1 ! NoSuchElement
            repeat 1 MAX ! NoSuchElement; repeat 1 MIN ! NoSuchElement; repeat 1 0 = 2
            """);
        Document.says(28, "200 are on the way there", """
            type a; put 0 0; times 197 repeat 1 0; repeat 1 0 = 199; repeat 1 0 = 200; repeat 1 0 ! IllegalState
            repeat 1 199 ! IllegalState
            repeat 1 200 ! NoSuchElement; repeat 1 -1 ! NoSuchElement; repeat 2 0 = 2; comment 0 0 1 1; onWay 1 = 201
            repeat 1 0 ! IllegalState
            lose 1 5 = 200; repeat 1 0 ! IllegalState; deliver 1 0 = h; repeat 1 0 = 200; repeat 1 0 ! IllegalState
            """);
        Document.says(29, "Loses an edit that is on the way to a hand", """
            type a; put 0 0; type b; put 0 1; lose 1 0; way 1 = 2; heard 1 0 = 0; deliver 1 0 = w; meet 0 1 = 2; text 1 = ab
            waiting 1 = 0; way 2 = 1,2
            """);
        Document.says(29, "`index`: which one", """
            type a; put 0 0; type b; put 0 0; type c; put 0 0; lose 1 1; way 1 = 1,3; lose 1 1; way 1 = 1
            lose 1 1 ! NoSuchElement; lose 1 0; way 1 = none; way 2 = 1,2,3; lose 2 0; way 2 = 2,3
            """);
        Document.says(29, "Returns how many are on the way then", """
            type a; put 0 0; repeat 1 0; lose 1 0 = 1; lose 1 0 = 0; onWay 1 = 0
            """);
        Document.says(29, "there is no such edit", """
            lose 0 0 ! NoSuchElement; type a; put 0 0; lose 0 0 ! NoSuchElement; lose 1 1 ! NoSuchElement
            lose 1 -1 ! NoSuchElement; lose 1 MAX ! NoSuchElement
            lose 1 MIN ! NoSuchElement; lose 1 0 = 0; lose 1 0 ! NoSuchElement
            """);
    }

    static void meeting() {
        Document.says(30, "Lets two hands meet", """
            type a; put 0 0; type b; put 1 0; meet 0 1; text 0 = ba; text 1 = ba; text 2 = nothing; way 0 = 101; way 1 = 1
            steps 0 = 2; steps 1 = 2
            """);
        Document.says(30, "`other`: another one", ABC, """
            take 4 0 1; meet 4 0 = 1; text 0 = bc; take 0 0 1; meet 4 0 = 1; text 4 = c; meet 0 4 = 0; text 1 = abc
            """);
        Document.says(30, "Returns how many edits both heard by that, together, those that waited there counted, too", """
            meet 0 1 = 0; type a; put 0 0; meet 0 1 = 1; meet 0 1 = 0; type b; put 0 1; type c; put 1 1; comment 1 0 1 1
            meet 1 0 = 3
            # 101 waits at hand 3, and hand 4 has heard what it leans on, but not it
            deliver 3 2 = w; way 4 = 1,2,101,102; deliver 4 0 = h; meet 3 4 = 2; heard 3 1 = 1; heard 4 1 = 0; waiting 3 = 0
            """);
        Document.says(30, "no such hand, for either", """
            meet 0 5 ! IndexOutOfBounds; meet 0 -1 ! IndexOutOfBounds; meet 5 0 ! IndexOutOfBounds
            meet -1 0 ! IndexOutOfBounds; meet 0 MAX ! IndexOutOfBounds
            meet 0 MIN ! IndexOutOfBounds; meet 5 5 ! IndexOutOfBounds; meet -1 -1 ! IndexOutOfBounds
            meet MAX MIN ! IndexOutOfBounds
            """);
        Document.says(30, "both are the same", """
            meet 0 0 ! IllegalArgument; meet 2 2 ! IllegalArgument; meet 4 4 ! IllegalArgument; type a; put 0 0; deliver 4 0
            meet 4 4 ! IllegalArgument; meet 4 3 = 1
            """);
    }

    static void counting() {
        Document.says(31, "Returns how many edits wait at a hand", """
            waiting 0 = 0; type a; put 0 0; type b; put 0 0; type c; put 0 0; deliver 1 2; waiting 1 = 1; deliver 1 1
            waiting 1 = 2; waiting 2 = 0; deliver 1 0; waiting 1 = 0
            """);
        Document.says(31, "Returns how many.", """
            type a; put 0 0; type b; put 0 0; type c; put 0 0; deliver 1 2; repeat 1 1; deliver 1 1; deliver 1 1 = k
            waiting 1 = 2; lose 1 0; waiting 1 = 2; meet 0 1 = 3; waiting 1 = 0
            """);
        Document.says(32, "Returns how many edits one hand has heard and another one has not", """
            type a; put 0 0; type b; put 0 0; type c; put 1 0; lacks 0 1 = 2; lacks 1 0 = 1; lacks 0 2 = 2; lacks 2 0 = 0
            lacks 0 0 = 0; deliver 1 0; lacks 0 1 = 1; lacks 1 0 = 1; lacks 1 2 = 2
            """);
        Document.says(32, "the one that has not heard them", """
            type a; put 3 0; lacks 3 4 = 1; lacks 4 3 = 0; deliver 4 0; lacks 3 4 = 0; lacks 4 0 = 1; lacks 0 4 = 0
            """);
        Document.says(32, "Returns how many.", """
            type a; put 0 0; comment 0 0 1 1; deliver 1 1 = w; lacks 0 1 = 2; lacks 1 0 = 0; meetAll; lacks 0 1 = 0; forget
            lacks 0 1 = 0; undo 0 ! NoSuchElement; comment 0 0 1 1; lacks 0 1 = 1
            """);
        Document.says(33, "Returns how many edits of one hand another one has heard", """
            type a; put 0 0; comment 0 0 1 1; undo 0; heard 0 0 = 3; heard 1 0 = 0; deliver 1 0; heard 1 0 = 1; heard 0 1 = 0
            meet 0 1; heard 1 0 = 3
            """);
        Document.says(33, "the hand that made them", """
            type a; put 2 0; deliver 3 0; heard 3 2 = 1; heard 2 3 = 0; heard 3 3 = 0; heard 2 2 = 1; heard 4 2 = 0
            """);
        Document.says(33, "Returns how many.", """
            type a; put 2 0; times 39 comment 2 0 1 1; heard 2 2 = 40; meet 2 3; heard 3 2 = 40; deliver 4 39 = w
            heard 4 2 = 0
            """);
        Document.says(34, "Returns on how many edits of a hand an edit leans", """
            type a; put 0 0; comment 0 0 1 1; meet 0 1; comment 1 0 1 1; comment 0 0 1 1; leans 1 1 0 = 2; leans 1 1 1 = 0
            leans 0 3 1 = 0; leans 0 3 0 = 2; leans 0 1 0 = 0; leans 1 1 4 = 0
            """);
        Document.says(34, "`hand`: the hand that made the edit", """
            type a; put 4 0; leans 4 1 0 = 0; leans 0 1 0 ! NoSuchElement; leans 3 1 4 ! NoSuchElement
            """);
        Document.says(34, "`number`: its number", ABC, """
            comment 0 0 1 1; comment 0 0 1 1; leans 0 1 0 = 0; leans 0 2 0 = 1; leans 0 3 0 = 2; leans 0 4 0 ! NoSuchElement
            leans 0 0 0 ! NoSuchElement
            """);
        Document.says(34, "`of`: the hand", ABC, """
            comment 2 0 1 1; meet 2 3; comment 3 0 1 1; leans 3 1 0 = 1; leans 3 1 1 = 0; leans 3 1 2 = 1; leans 3 1 3 = 0
            leans 3 1 4 = 0
            """);
        Document.says(34, "Returns how many.", ABC, """
            times 39 comment 0 0 1 1; leans 0 40 0 = 39; leans 0 40 1 = 0; meet 0 1; undo 0 ! IllegalState; comment 1 0 1 1
            leans 1 1 0 = 40; meetAll; forget; leans 1 1 0 = 40
            """);
        Document.says(34, "there is no such edit", """
            leans 0 1 0 ! NoSuchElement; leans 4 1 4 ! NoSuchElement; type a; put 0 0; leans 0 1 0 = 0
            leans 0 2 0 ! NoSuchElement; leans 0 0 0 ! NoSuchElement
            leans 0 -1 0 ! NoSuchElement; leans 0 MIN 0 ! NoSuchElement; leans 0 MAX 0 ! NoSuchElement
            leans 1 1 0 ! NoSuchElement; leans 0 9 5 ! IndexOutOfBounds
            times 39 comment 0 0 1 1; leans 0 40 0 = 39; leans 0 41 0 ! NoSuchElement
            """);
        for (String named : new String[] {"32 lacks", "33 heard", "34 leans", "38 differ", "39 isAlike"}) {
            String[] words = named.split(" ");
            Document.says(Integer.parseInt(words[0]), "no such hand, for either", ABC, """
                NAME 0 OF 5 ! IndexOutOfBounds; NAME 0 OF -1 ! IndexOutOfBounds; NAME 5 OF 0 ! IndexOutOfBounds
                NAME -1 OF 0 ! IndexOutOfBounds; NAME 5 OF 5 ! IndexOutOfBounds; NAME 0 OF MAX ! IndexOutOfBounds
                NAME MIN OF 0 ! IndexOutOfBounds; NAME 0 OF 4; NAME 0 OF 0
                """.replace("NAME", words[1]).replace(" OF", words[1].equals("leans") ? " 1" : ""));
        }
    }

    // ---- the past

    static void thePast() {
        Document.says(35, "Returns how many steps a hand has", """
            steps 0 = 0; type a; put 0 0; steps 0 = 1; steps 1 = 0; undo 0; steps 0 = 2; redo 0; steps 0 = 3; meet 0 1
            steps 1 = 3; mark 1 0 1 b true true; steps 1 = 4; steps 0 = 3
            """);
        Document.says(35, "Returns how many.", ABC, """
            times 39 comment 0 0 1 1; times 40 comment 1 0 1 1; times 40 comment 2 0 1 1; times 40 comment 3 0 1 1
            times 40 comment 4 0 1 1; meetAll; steps 0 = 200; steps 4 = 200; forget = 0; steps 0 = 0; steps 4 = 0
            """);
        Document.says(36, "Returns how long the text of a hand was behind some of its steps", ABC, """
            take 0 0 1; undo 0; type xy; put 1 0; deliver 0 0; lengthThen 0 1 = 3; lengthThen 0 2 = 2; lengthThen 0 3 = 3
            lengthThen 0 4 = 5; length 0 = 5
            """);
        Document.says(36, "behind how many of them, 0 to all", ABC, """
            lengthThen 0 0 = 0; lengthThen 0 1 = 3; lengthThen 0 2 ! NoSuchElement; lengthThen 0 -1 ! NoSuchElement
            comment 0 0 1 1; lengthThen 0 2 = 3; lengthThen 0 3 ! NoSuchElement
            """);
        Document.says(36, "Returns how many letters it saw", """
            lengthThen 0 0 = 0; type a; put 0 0; take 0 0 1; lengthThen 0 0 = 0; lengthThen 0 1 = 1; lengthThen 0 2 = 0
            meet 0 1; lengthThen 1 1 = 1; lengthThen 1 2 = 0
            """);
        Document.says(36, "there are not so many steps", """
            lengthThen 0 1 ! NoSuchElement; lengthThen 0 -1 ! NoSuchElement; type a; put 0 0; lengthThen 0 1 = 1
            lengthThen 0 2 ! NoSuchElement; lengthThen 1 1 ! NoSuchElement
            lengthThen 0 MAX ! NoSuchElement; lengthThen 0 MIN ! NoSuchElement; meetAll; forget
            lengthThen 0 1 ! NoSuchElement; lengthThen 0 0 = 1; lengthThen 4 0 = 1
            """);
        Document.says(37, "Returns a sign of the text that a hand had behind some of its steps", ABC, """
            take 0 0 1; move 0 0 1 1; then 0 1 = abc; then 0 2 = bc; then 0 3 = cb; then 0 0 = nothing; signThen 0 2 1 = c
            signThen 0 3 1 = b
            """);
        Document.says(37, "behind how many of them, 0 to all", ABC, """
            signThen 0 0 0 ! NoSuchElement; signThen 0 1 0 = a; signThen 0 2 0 ! NoSuchElement
            signThen 0 -1 0 ! NoSuchElement; forget; signThen 0 0 0 = a; signThen 0 1 0 ! NoSuchElement
            """);
        Document.says(37, "`place`: the place", ABC, """
            signThen 0 1 0 = a; signThen 0 1 2 = c; signThen 0 1 3 ! NoSuchElement; signThen 0 1 -1 ! NoSuchElement
            """);
        Document.says(37, "Returns the sign.", """
            type #32; put 0 0; type #126; put 0 0; undo 0; signThen 0 2 0 = ~; lengthThen 0 3 = 1; take 0 0 1; type a; put 0 0
            signThen 0 5 0 = a
            """);
        Document.says(37, "there are not so many steps", """
            signThen 0 1 0 ! NoSuchElement; signThen 0 -1 0 ! NoSuchElement; type a; put 0 0; signThen 0 2 0 ! NoSuchElement
            signThen 0 MAX 0 ! NoSuchElement; signThen 0 MIN 0 ! NoSuchElement; signThen 0 1 0 = a
            """);
        Document.says(37, "or no such place", """
            signThen 0 0 0 ! NoSuchElement; type ab; put 0 0; take 0 0 1; signThen 0 1 1 = b; signThen 0 2 1 ! NoSuchElement
            signThen 0 2 0 = b; signThen 0 1 2 ! NoSuchElement
            signThen 0 1 MAX ! NoSuchElement; signThen 0 1 MIN ! NoSuchElement; signThen 0 0 0 ! NoSuchElement; take 0 0 1
            signThen 0 3 0 ! NoSuchElement
            """);
    }

    static void comparing() {
        Document.says(38, "Returns how many letters one hand sees and another one does not, and the other way round", ABC, """
            differ 0 1 = 0; take 0 0 1; differ 0 1 = 1; differ 1 0 = 1; type xy; put 1 3; differ 0 1 = 3; differ 1 0 = 3
            differ 0 2 = 1; differ 1 2 = 2
            take 1 0 1; differ 0 1 = 2; take 0 0 2; differ 0 1 = 4; meet 0 1; differ 0 1 = 0
            """);
        Document.says(38, "`other`: the other one", ABC, """
            take 0 0 3; differ 0 4 = 3; differ 4 0 = 3; differ 0 0 = 0; differ 4 4 = 0; differ 3 4 = 0
            """);
        Document.says(38, "Returns how many.", """
            differ 0 1 = 0; differ 2 2 = 0; type a; put 0 0; type a; put 1 0; differ 0 1 = 2; undo 0; differ 0 1 = 1; undo 1
            differ 0 1 = 0; move 0 0 1 0 ! NoSuchElement; redo 0; meet 0 2; move 0 0 1 0; differ 0 2 = 2
            """);
        Document.says(39, "Tells whether two hands see the same letters in the same order, with the same marks and comments", ABC, """
            isAlike 0 1 = true; move 0 0 3 0; text 0 = abc; isAlike 0 1 = false; undo 0; isAlike 0 1 = true
            isAlike 1 0 = true; mark 0 0 3 b true false; isAlike 0 1 = false
            mark 0 0 3 b false false; isAlike 0 1 = true; comment 0 0 1 1; isAlike 0 1 = false; isAlike 1 0 = false
            comment 1 0 1 1; isAlike 0 1 = false; undo 0; undo 1
            isAlike 0 1 = true; mark 1 1 1 i true true; mark 0 1 1 i true false; isAlike 0 1 = true; mark 0 1 1 b true true
            isAlike 0 1 = false
            """);
        // what is not seen does not count: nor letters, nor comments on them
        Document.says(39, "Tells whether two hands see the same letters in the same order, with the same marks and comments", ABC, """
            type x; put 0 1; comment 0 1 1 1; isAlike 0 1 = false; take 0 1 1; isAlike 0 1 = true; kept 0 = 4; kept 1 = 3
            setCursor 0 2; isAlike 0 1 = true
            comment 0 0 2 1; meet 0 1; isAlike 0 1 = true; take 0 1 1; isAlike 0 1 = false; take 1 1 1; isAlike 0 1 = true
            """);
        Document.says(39, "`other`: the other one", """
            isAlike 0 0 = true; isAlike 3 4 = true; type a; put 0 0; isAlike 0 0 = true; isAlike 0 4 = false
            isAlike 4 0 = false; isAlike 3 4 = true
            """);
        Document.says(39, "Returns whether they do", """
            type a; put 0 0; type b; put 1 0; isAlike 0 1 = false; deliver 0 0; isAlike 0 1 = false; deliver 1 0
            isAlike 0 1 = true; undo 0; isAlike 0 1 = false; undo 1; isAlike 0 1 = false; meet 0 1; isAlike 0 1 = true
            """);
    }

    static void forgetting() {
        Document.says(40, "Forgets all letters that are not seen", """
            type abc; put 0 0; take 0 1 1; type x; put 0 0; undo 0; kept 0 = 4; meetAll; forget; kept 0 = 2; text 0 = ac
            text 3 = ac; isTrue = true
            """);
        Document.says(40, "Returns how many they were, at each hand", ABC, """
            forget = 0; take 1 0 1; take 2 0 2; meetAll; forget = 2; forget = 0; take 0 0 1; meetAll; forget = 1; length 4 = 0
            forget = 0; type x; put 0 0; undo 0; meetAll; forget = 1; kept 0 = 0
            """);
        Document.says(40, "some hand has not heard all edits that were made", """
            forget = 0; type a; put 0 0; forget ! IllegalState; meet 0 1; forget ! IllegalState; meet 0 2
            forget ! IllegalState; meet 0 3; forget ! IllegalState; meet 0 4; forget = 0
            open 0; comment 4 0 1 1; forget ! IllegalState; close 0 = 0; meet 4 3; meet 4 2; meet 4 1; forget ! IllegalState
            groups 4 false = 1; undo 4; meetAll; forget = 0
            """);
        // what is on the way, or lost, does not count, but what waits does
        Document.says(40, "some hand has not heard all edits that were made", ABC, """
            comment 0 0 1 1; comment 0 0 1 1; deliver 4 2 = w; meet 0 1; meet 0 2; meet 0 3; forget ! IllegalState
            waiting 4 = 1; deliver 4 1 = h; waiting 4 = 0; forget = 0; onWay 1 = 3
            deliver 1 0 = k; deliver 1 1 = k; onWay 1 = 1; steps 1 = 0
            """);
        Document.says(41, "Returns how many letters a hand has in its row, seen or not", ABC, """
            kept 0 = 3; take 0 0 2; kept 0 = 3; type x; put 0 0; kept 0 = 4; undo 0; kept 0 = 4; kept 1 = 3; move 0 0 1 0
            kept 0 = 5; meet 0 1; kept 1 = 5; kept 2 = 3
            """);
        Document.says(41, "Returns how many.", """
            kept 0 = 0; type a; put 0 0; kept 0 = 1; kept 1 = 0; type b; put 0 1; deliver 1 1 = w; kept 1 = 0; deliver 1 0
            kept 1 = 2; meetAll; take 3 0 2; kept 3 = 2; meetAll; forget = 2; kept 3 = 0; kept 0 = 0
            """);
    }

    // ---- figures

    static void figures() {
        Document.says(42, "Returns the share of the letters that a hand sees which other hands put", ABC, """
            othersShare 0 = 0.0; othersShare 1 = 1.0; type x; put 1 0; othersShare 1 = 0.75; take 1 1 1; move 1 1 1 0
            othersShare 1 = 0.33333334; meet 1 0; othersShare 0 = 0.6666667
            """);
        Document.says(42, "Returns their number divided by that of all that it sees, both converted to float", """
            type abcdef; put 0 0; type abc; put 0 0; meet 0 1; type x; put 1 0; othersShare 1 = 0.9; othersShare 0 = 0.0
            take 1 0 3; othersShare 1 = 1.0
            """);
        Document.says(42, "it sees none", """
            othersShare 0 ! Arithmetic; type a; put 0 0; othersShare 0 = 0.0; othersShare 1 ! Arithmetic
            othersShare 5 ! IndexOutOfBounds; undo 0; othersShare 0 ! Arithmetic; redo 0; take 0 0 1
            othersShare 0 ! Arithmetic; meetAll; forget; othersShare 4 ! Arithmetic
            """);
        Document.says(43, "Returns the mean time of the edits that put the letters which a hand sees", ABC, """
            meanTime 4 = 1.0; type x; put 4 0; meanTime 4 = 1.25; take 4 1 3; meanTime 4 = 2.0; type y; put 0 0
            meanTime 0 = 1.25; meet 0 4; meanTime 0 = 2.0; move 0 0 2 0; meanTime 0 = 4.0
            """);
        Document.says(43, "Returns the sum of the times, for each letter, divided by their number, both converted to double", """
            type a; put 0 0; type b; put 0 0; comment 0 0 1 1; type c; put 0 0; meanTime 0 = 2.3333333333333335; undo 0
            undo 0; meanTime 0 = 1.5
            """);
        Document.says(43, "it sees none", """
            meanTime 0 ! Arithmetic; type a; put 0 0; meanTime 0 = 1.0; meanTime 1 ! Arithmetic; meanTime 5 ! IndexOutOfBounds
            undo 0; meanTime 0 ! Arithmetic; redo 0; take 0 0 1; meanTime 0 ! Arithmetic; meetAll; forget
            meanTime 4 ! Arithmetic
            """);
    }

    static long sum(long before, long... parts) {
        long sum = before;
        for (long part : parts) {
            sum = 31 * sum + part;
        }
        return sum;
    }

    static void sums() {
        long empty = sum(7, new long[35]);
        Document.says(44, "Returns a sum over all, a long that goes round", "checksum = " + empty, "type #32; checksum = " + (31 * empty + 32), "erase; checksum = " + empty);
        Document.says(44, "Returns 7 at first; then, for each hand, by 31 times itself plus each of these", "checksum = " + empty);
        Document.says(44, "and then, once, behind all hands, the code of each typed sign", "type az; checksum = " + sum(empty, 97, 122));
        long[] heardNone = {0, 0, 0, 0, 0, 0};
        long before = sum(sum(sum(7, 1, 0, 0, 0, 0, 'a', 0, 'b', 0, 0, 0), heardNone), 1);
        before = sum(sum(sum(before, heardNone), 1), 1, 0, 0, 0, 0, 'a', 0, 'b', 0, 0, 1);
        Document.says(44, "how many edits it has heard of each hand, by hands; for each letter of its text the code of its sign",
            "type ab; put 0 0; meet 0 3; checksum = " + sum(sum(before, heardNone), 1));
        long marked = sum(sum(sum(7, 1, 0, 0, 0, 0, 'a', 0, 'b', 0, 0, 2), heardNone), 3);
        marked = sum(sum(sum(marked, heardNone), 3), 1, 0, 0, 2, 0, 'a', 1, 'b', 3, 1, 1);
        Document.says(44, "and then, these two added, 1 if it has the mark 'b', else 0, and 2 if it has the mark 'i', else 0",
            "type ab; put 0 0; meet 0 3; mark 3 0 2 b true true; mark 3 1 1 i true false; setCursor 3 1; repeat 4 0",
            "checksum = " + sum(sum(marked, heardNone), 4));
        long last = sum(sum(sum(sum(7, heardNone), 0), heardNone), 1);
        last = sum(sum(sum(sum(last, heardNone), 1), heardNone), 1);
        Document.says(44, "its cursor's place; how many edits are on the way to it", "type a; checksum = " + sum(empty, 'a'),
            "put 4 0; setCursor 4 1; lose 0 0; checksum = " + sum(last, 0, 0, 0, 0, 1, 'a', 0, 1, 0));
        Document.says(45, "Checks the theorem", """
            isTrue = true; type ab; put 0 0; isTrue = true; type cd; put 1 0; mark 1 0 1 b true true; comment 0 0 2 1
            isTrue = true; meetAll; isTrue = true; undo 1; take 0 0 2; isTrue = true; meetAll; isTrue = true; forget
            isTrue = true; type x; put 4 0; undo 4; isTrue = true
            """);
        Document.says(45, "Nothing is changed by that", ABC, """
            open 0; take 0 0 1; deliver 1 1; isTrue = true; close 0 = 1; undo 0 = 1; redo 0 = 1; text 0 = bc; text 1 = bc
            text 2 = abc; then 1 1 = abc; isTrue = true; then 1 1 = abc; then 1 2 = bc; steps 1 = 2
            """);
        Document.says(45, "Returns whether it is so", "isTrue = true");
    }
}
