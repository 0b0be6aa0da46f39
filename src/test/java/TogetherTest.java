/** Where several sentences of the document's terms meet in one call; the answers were worked out by hand. */
public final class TogetherTest {
    private static final String ABC = Script.ABC;
    private static final String ABCD = "type abcd; put 0 0; meetAll;";

    public static void main(String[] args) {
        marksOfLettersTaken();
        marksOfLettersForgotten();
        marksThatRuleOverOthers();
        commentsInOrder();
        marksOfLettersMoved();
        groupsHeardByHalves();
        groupsAndOthers();
        whatWaits();
        doubledEdits();
        cursorsOfLettersTaken();
        cursorsOfLettersForgotten();
        stepsBehindForget();
        movesAtTheSameTime();
        movesAndOthers();
        Document.end(1, 0);
    }

    private static void so(String where, String... calls) {
        Document.answers(where, 0, calls);
    }

    /** What answers alike whether all is forgotten in between or not. */
    private static void soForgottenOrNot(String where, String ahead, String behind) {
        so(where + ", kept", ahead, behind);
        so(where + ", forgotten", ahead, "forget", behind);
    }

    // ---- marks and comments

    static void marksOfLettersTaken() {
        // a b x y (c) (d) z: what is put behind x stands ahead of d, taken or not
        so("a growing mark whose end is taken", ABCD, """
            mark 0 1 2 b true true = 2; meetAll; take 1 2 1 = 3; marks 1 b = 010; type x; put 1 2 = 4; text 1 = abxd
            marks 1 b = 0110; take 1 3 1 = 3; type y; put 1 3 = 4; marks 1 b = 0111; type z; put 2 4 = 5; marks 2 b = 01100
            meetAll; text 0 = abxyz; marks 0 b = 01110; undo 1; undo 1; text 1 = abxdz; marks 1 b = 01100; undo 1; undo 1
            text 1 = abcdz; marks 1 b = 01100; runs 1 = 3
            """);
        // what was put between letters that another hand took at the same time stands between them
        so("a mark and a comment all of whose letters are taken", ABCD, """
            mark 0 1 2 b true true = 2; comment 0 1 2 7 = 3; mark 0 1 2 i true false = 4; meetAll
            take 1 1 2 = 2; hung 1 = none; runs 1 = 1; type x; put 1 1 = 3; type n; put 2 3 = 5; type m; put 3 2 = 5
            marks 2 b = 01110; marks 2 i = 01100; meetAll; text 0 = axmnd; marks 0 b = 00110; marks 0 i = 00100
            hung 0 = 3:2-2:7; runs 0 = 4; undo 1; undo 1; meetAll; text 0 = abmcnd; marks 0 b = 011110; marks 0 i = 011100
            hung 0 = 3:1-3:7
            """);
        so("a mark to the end of the row, whose letters are taken", ABC, """
            mark 0 2 1 b true true; comment 0 2 1 1; meetAll; take 1 2 1; type x; put 1 2 = 3; marks 1 b = 000; hung 1 = none
            type y; put 2 3 = 4; marks 2 b = 0011; meetAll; text 0 = abxy; marks 0 b = 0001; hung 0 = none; type z; put 4 4
            text 4 = abxyz; marks 4 b = 00011; take 4 3 1; marks 4 b = 0001; undo 1; undo 1; text 1 = abcy; marks 1 b = 0011
            hung 1 = 3:2-2:1
            """);
        so("a comment on what another hand takes at the same time", ABC, """
            take 0 1 1; comment 1 1 1 9 = 101; mark 2 1 1 b true false; hung 1 = 101:1-1:9; meetAll; hung 3 = none
            comments 3 = 0; runs 3 = 1; isAlike 3 1 = true; undo 0; hung 0 = 101:1-1:9; marks 0 b = 010; hung 3 = none
            isAlike 0 3 = false; meetAll; isAlike 0 3 = true; hung 3 = 101:1-1:9; undo 1; meetAll; hung 3 = none
            """);
    }

    static void marksOfLettersForgotten() {
        String ahead = ABCD + """
            mark 0 1 2 b true true = 2; comment 0 1 2 7 = 3; meetAll; take 1 1 2; type x; put 1 1; type n; put 2 3; type m
            put 3 2; meetAll; text 4 = axmnd;
            """;
        String behind = """
            text 4 = axmnd; marks 4 b = 00110; hung 4 = 3:2-2:7; type p; put 4 2; text 4 = axpmnd; marks 4 b = 000110
            type q; put 4 4; type r; put 4 6; text 4 = axpmqnrd; marks 4 b = 00011110; hung 4 = 3:3-4:7; meetAll
            marks 0 b = 00011110; hung 0 = 3:3-4:7; take 0 4 1; hung 0 = 3:3-3:7; take 0 3 1; hung 0 = none
            type s; put 0 3; text 0 = axpsnrd; marks 0 b = 0000110; hung 0 = none; isTrue = true
            """;
        soForgottenOrNot("a mark and a comment all of whose letters are taken", ahead, behind);
        soForgottenOrNot("what is put ahead of a first letter, or behind a last one, that was taken",
            "type abcde; put 0 0; mark 0 1 3 b true false; comment 0 1 3 7; mark 0 1 3 i false true; take 0 3 1; take 0 1 1; meetAll;",
            """
            text 1 = ace; type x; put 1 1; text 1 = axce; marks 1 b = 0010; hung 1 = 3:2-2:7; type y; put 1 3; text 1 = axcye
            marks 1 b = 00110; hung 1 = 3:2-3:7; type z; put 1 5; marks 1 b = 001100; meetAll; marks 3 b = 001100
            hung 3 = 3:2-3:7; isTrue = true
            """);
        soForgottenOrNot("a mark on the last letter, which is taken", ABC + """
            mark 0 2 1 b true true; mark 0 2 1 i true false; comment 0 2 1 1; take 0 2 1; meetAll;
            """, """
            text 1 = ab; type x; put 1 2; type y; put 1 3; text 1 = abxy; marks 1 b = 0000; marks 1 i = 0000; hung 1 = none
            take 1 0 4 = 0; type z; put 1 0; marks 1 b = 0; meetAll; marks 0 b = 0; hung 0 = none
            """);
        soForgottenOrNot("a mark up to the end, whose last letter is taken", ABC + """
            mark 0 1 2 b true true; mark 0 1 2 i true false; comment 0 1 2 1; take 0 2 1; meetAll;
            """, """
            text 1 = ab; marks 1 b = 01; marks 1 i = 01; type x; put 1 2; type y; put 1 3; text 1 = abxy; marks 1 b = 0111
            marks 1 i = 0111; hung 1 = 4:1-3:1; type z; put 1 1; marks 1 b = 00111; meetAll; hung 0 = 4:2-4:1
            """);
        soForgottenOrNot("a mark of a group that is undone", ABC + """
            open 0; mark 0 0 2 b true true; comment 0 0 2 4; close 0 = 2; mark 0 0 1 i true true; take 1 0 1; undo 0; undo 0
            meetAll;
            """, """
            text 2 = bc; marks 2 b = 00; marks 2 i = 00; hung 2 = none; type x; put 2 1; marks 2 b = 000; comments 2 = 0
            """);
        so("a letter up to which a mark goes, forgotten again and again", ABCD, """
            mark 0 0 2 i true true; comment 0 0 2 3; take 3 2 1; meetAll; forget = 1; text 1 = abd; marks 1 i = 110
            hung 1 = 3:0-1:3; type x; put 1 2; text 1 = abxd; marks 1 i = 1110; hung 1 = 3:0-1:3; take 2 2 1; meetAll
            text 0 = abx; marks 0 i = 111; forget = 1; type y; put 1 3; text 1 = abxy; marks 1 i = 1111; hung 1 = 3:0-1:3
            take 1 1 1; meetAll; hung 0 = 3:0-0:3; forget = 1; type z; put 4 1; text 4 = azxy; hung 4 = 3:0-1:3
            marks 4 i = 1111
            """);
        so("a first letter, forgotten again and again", ABCD, """
            mark 0 0 3 b true false; comment 0 0 3 5; take 1 0 1; meetAll; forget = 1; text 0 = bcd; marks 0 b = 110
            hung 0 = 3:0-1:5; type x; put 1 0; marks 1 b = 0110; hung 1 = 3:1-2:5; take 1 1 1; meetAll; forget = 1
            text 0 = xcd; type y; put 0 1; text 0 = xycd; marks 0 b = 0010; hung 0 = 3:2-2:5; take 0 2 1; meetAll; forget = 1
            text 0 = xyd; marks 0 b = 000; type z; put 2 2; text 2 = xyzd; marks 2 b = 0000; hung 2 = none; isTrue = true
            """);
    }

    static void marksThatRuleOverOthers() {
        so("a mark that is taken away at the same time, and grows", ABC, """
            mark 0 0 3 b true true; mark 1 1 1 b false true; meetAll; marks 4 b = 101; type x; put 4 2; text 4 = abxc
            marks 4 b = 1001; undo 1; meetAll; marks 4 b = 1111; redo 1; meetAll; marks 4 b = 1001; take 4 1 1; text 4 = axc
            marks 4 b = 101; type y; put 4 1; text 4 = ayxc; marks 4 b = 1101; meetAll; marks 0 b = 1101; isTrue = true
            """);
        // 302 is the later one for hand 3, which had heard 102; hand 1 marks again without having heard of 302
        so("marks of many times, heard late", ABC, """
            mark 1 0 3 b true false = 1; mark 1 0 2 b false false = 2; meet 1 3 = 2; marks 3 b = 001
            mark 3 1 2 b true false = 1; mark 3 1 1 b false true = 2; marks 3 b = 001; mark 1 1 2 b true true = 3
            marks 1 b = 011; meetAll; marks 0 b = 001; undo 3 = 1; meetAll; marks 0 b = 011; undo 3 = 1; marks 3 b = 011
            undo 1; meetAll; marks 0 b = 001
            """);
        soForgottenOrNot("a mark that rules over another one, whose letters are taken", ABCD + """
            mark 0 0 4 b true true; mark 0 1 2 b false true; take 0 1 2; meetAll;
            """, """
            text 2 = ad; marks 2 b = 11; type x; put 2 1; text 2 = axd; marks 2 b = 111; type y; put 2 3; marks 2 b = 1111
            mark 2 1 1 b false true; type z; put 2 2; text 2 = axzdy; marks 2 b = 10011; meetAll; marks 0 b = 10011
            """);
    }

    static void commentsInOrder() {
        soForgottenOrNot("comments whose first letters are taken", ABC + """
            comment 0 1 1 20 = 2; comment 0 0 3 30 = 3; comment 0 0 2 40 = 4; comment 0 2 1 50 = 5
            hung 0 = 3:0-2:30,4:0-1:40,2:1-1:20,5:2-2:50; take 0 0 1; meetAll;
            """, "hung 3 = 2:0-0:20,3:0-1:30,4:0-0:40,5:1-1:50; take 3 0 1; hung 3 = 3:0-0:30,5:0-0:50");
        so("comments of several hands", ABC, """
            comment 3 1 2 8 = 301; comment 1 1 1 9 = 101; comment 0 0 2 7 = 2; take 2 0 2; meetAll; hung 4 = 301:0-0:8
            undo 2; meetAll; hung 4 = 2:0-1:7,101:1-1:9,301:1-2:8; undo 0; meetAll; hung 4 = 101:1-1:9,301:1-2:8
            take 4 0 1; hung 4 = 101:0-0:9,301:0-1:8; type x; put 4 1; hung 4 = 101:0-0:9,301:0-2:8; redo 0; meetAll
            text 4 = bxc; hung 4 = 2:0-0:7,101:0-0:9,301:0-2:8
            """);
    }

    static void marksOfLettersMoved() {
        so("what was told of old letters alone", ABC, """
            mark 0 1 1 b true false; comment 0 1 1 5; move 0 1 1 2 = 1; text 0 = acb; births 0 = 1,1,4; marks 0 b = 000
            hung 0 = none; undo 0; marks 0 b = 010; hung 0 = 3:1-1:5; redo 0; meetAll; forget = 1; marks 0 b = 000
            hung 0 = none
            """);
        so("new letters among those of which it was told", ABC, """
            mark 0 0 3 b true false; comment 0 0 3 5; move 0 0 1 1 = 1; text 0 = bac; marks 0 b = 111; hung 0 = 3:0-2:5
            move 0 0 1 2 = 2; text 0 = acb; births 0 = 4,1,5; marks 0 b = 110; hung 0 = 3:0-1:5; move 0 0 2 1 = 1
            text 0 = bac; births 0 = 5,6,6; marks 0 b = 000; hung 0 = none
            """);
        soForgottenOrNot("the letter up to which a mark goes, moved", ABCD + "mark 0 0 2 b true true; move 0 2 1 3 = 1; meetAll;", """
            text 1 = abdc; marks 1 b = 1100; type x; put 1 2; text 1 = abxdc; marks 1 b = 11100; type y; put 1 4
            text 1 = abxdyc; marks 1 b = 111000; move 1 3 1 0 = -3; text 1 = dabxyc; marks 1 b = 011100
            """);
        so("a growing mark behind which letters are moved", ABC, """
            mark 0 0 1 b true true; move 1 2 1 1 = -1; text 1 = acb; meet 0 1; marks 1 b = 110; births 1 = 1,101,1; undo 1
            marks 1 b = 100; text 0 = acb; marks 0 b = 110
            """);
    }

    // ---- groups

    static void groupsHeardByHalves() {
        so("a group of four edits, undone, done again and undone, heard late", ABC, """
            open 1; type x; put 1 3; take 1 0 1; mark 1 0 2 b true true; comment 1 1 2 4 = 104; close 1 = 4; undo 1 = 4
            redo 1 = 4; undo 1 = 4; text 1 = abc; way 2 = 1,101,102,103,104,105,106,107; deliver 2 0 = k; deliver 2 0 = h
            text 2 = abcx; deliver 2 0 = h; text 2 = bcx; way 2 = 103,104,105,106,107; deliver 2 4 = w; deliver 2 2 = w
            waiting 2 = 2; text 2 = bcx; deliver 2 0 = h; marks 2 b = 110; waiting 2 = 2; deliver 2 0 = h; waiting 2 = 1
            text 2 = abc; marks 2 b = 000; hung 2 = none; heard 2 1 = 5; deliver 2 0 = h; waiting 2 = 0; heard 2 1 = 7
            text 2 = abc; steps 2 = 8; then 2 1 = abc; then 2 2 = abcx; then 2 3 = bcx; then 2 5 = bcx; then 2 6 = abc
            then 2 7 = bcx; then 2 8 = abc; redo 1 = 4; meet 1 2 = 1; text 2 = bcx; marks 2 b = 110; hung 2 = 104:1-2:4
            isTrue = true
            """);
        so("a half of a group that is open yet", ABC, """
            open 1 = 0; type x; put 1 0; meet 1 2 = 1; text 2 = xabc; take 1 1 1; deliver 3 1 = h; deliver 3 1 = h
            text 3 = xbc; undo 1 = 2; meet 2 1 = 2; text 2 = abc; steps 2 = 4; then 2 2 = xabc; then 2 3 = xbc; then 2 4 = abc
            text 3 = xbc; meet 4 3 = 2; text 4 = xbc; isAlike 4 3 = true; isAlike 4 1 = false; differ 4 1 = 2; meet 4 1 = 1
            isAlike 4 1 = true; close 1 ! IllegalState
            """);
        so("an undoing that is heard ahead of what it undoes", ABC, """
            type x; put 0 1; undo 0; type y; put 0 1; undo 0; redo 0; way 3 = 1,2,3,4,5,6; deliver 3 2 = w; deliver 3 3 = w
            deliver 3 3 = w; deliver 3 2 = w; waiting 3 = 4; text 3 = abc; deliver 3 1 = h; waiting 3 = 0; text 3 = aybc
            steps 3 = 6; then 3 2 = axbc; then 3 3 = abc; then 3 4 = aybc; then 3 5 = abc; then 3 6 = aybc
            """);
    }

    static void groupsAndOthers() {
        so("what others put among letters of a group that is undone", ABC, """
            open 1; type xyz; put 1 1; take 1 4 1; close 1 = 2; text 1 = axyzc; meet 1 2 = 2; type q; put 2 2; text 2 = axqyzc
            undo 1 = 2; text 1 = abc; meet 1 3 = 3; text 3 = abc; meet 3 2 = 2; text 3 = aqbc; text 2 = aqbc; redo 1 = 2
            text 1 = axyzc; meetAll; text 0 = axqyzc; births 0 = 1,101,201,101,101,1
            """);
        so("letters of a group that is undone, moved by another hand", ABC, """
            type xy; put 1 1; meetAll; move 2 1 2 3 = 2; text 2 = abcxy; undo 1; text 1 = abc; meetAll; text 0 = abcxy
            births 0 = 1,1,1,201,201; undo 2; text 2 = abc; meetAll; text 0 = abc; redo 1; meetAll; text 0 = axybc; redo 2
            meetAll; text 0 = abcxy; undo 1; redo 1; meetAll; text 0 = abcxy; kept 0 = 7
            """);
        so("a letter that two groups took, with other things", ABC, """
            open 1; take 1 1 1; mark 1 0 2 b true true; close 1; open 2; take 2 0 2; type n; put 2 1; close 2 = 2; meetAll
            text 0 = cn; marks 0 b = 11; undo 2; meetAll; text 0 = ac; marks 0 b = 11; undo 1; meetAll; text 0 = abc
            marks 0 b = 000; redo 2; meetAll; text 0 = cn; marks 0 b = 00; redo 1; meetAll; marks 0 b = 11
            """);
        so("a group that an undoing closes", """
            open 0; type a; put 0 0; type b; put 0 1; undo 0 = 2; close 0 ! IllegalState; text 0 = nothing; groups 0 true = 1
            type c; put 0 0; groups 0 true = 0; groups 0 false = 1; type d; put 0 1; groups 0 false = 2; open 0 = 2
            undo 0 = 1; close 0 ! IllegalState; text 0 = c; open 0 = 1; redo 0 = 1; close 0 ! IllegalState; text 0 = cd
            """);
        so("a group that forget() closes", ABC, """
            open 0; open 3; type x; put 3 0; meetAll; forget = 0; close 3 ! IllegalState; close 0 ! IllegalState; type y
            put 3 0; groups 3 false = 1; undo 3 = 1; text 3 = xabc; undo 3 ! NoSuchElement; open 3 = 0; redo 3 = 1
            text 3 = yxabc; take 3 0 2; take 3 0 1; undo 3 = 1; undo 3 = 1; undo 3 = 1; text 3 = xabc; groups 3 true = 3
            """);
    }

    // ---- on the way

    static void whatWaits() {
        so("edits that wait for one another", """
            type a; put 0 0; meet 0 2; type c; put 2 1; meet 2 1; type b; put 1 2; meet 0 3; type d; put 3 1
            way 4 = 1,201,101,301; deliver 4 3 = w; deliver 4 2 = w; deliver 4 1 = w; waiting 4 = 3; text 4 = nothing
            deliver 4 0 = h; waiting 4 = 0; steps 4 = 4; then 4 1 = a; then 4 2 = ac; then 4 3 = acb; then 4 4 = adcb
            """);
        so("edits that wait on while others are heard", """
            type a; put 0 0; type b; put 0 1; type c; put 0 2; type x; put 1 0; deliver 4 2 = w; deliver 4 1 = w
            deliver 4 1 = h; text 4 = x; waiting 4 = 2; type y; put 4 1; text 4 = xy; waiting 4 = 2; leans 4 1 1 = 1
            leans 4 1 0 = 0; meet 4 2 = 2; waiting 4 = 2; text 2 = xy; deliver 2 0 = h; text 2 = xya; meet 4 2 = 3
            waiting 4 = 0; text 4 = xyabc; text 2 = xya; lacks 4 2 = 2; steps 4 = 5; then 4 2 = xy; then 4 3 = xya
            then 4 4 = xyab; meet 2 4 = 2
            """);
        // what is heard in a meeting lets go what waits, ahead of the rest of the list
        so("edits that wait at both hands that meet", """
            type a; put 0 0; type b; put 0 1; type c; put 1 0; type d; put 1 1; type e; put 1 2; way 2 = 1,2,101,102,103
            deliver 2 4 = w; deliver 2 0 = h; deliver 3 1 = w; deliver 3 1 = h; deliver 3 1 = h; text 3 = cd; text 2 = a
            waiting 2 = 1; waiting 3 = 1; meet 3 2 = 5; waiting 2 = 0; waiting 3 = 0; text 3 = cdab; text 2 = cdea
            steps 3 = 4; then 3 3 = cda; then 3 4 = cdab; steps 2 = 4; then 2 1 = a; then 2 2 = ca; then 2 3 = cda
            meet 2 3 = 2; isAlike 2 3 = true
            """);
        so("what waits and is in the list, too", """
            type a; put 0 0; meet 0 1; type p; put 1 1; type b; put 0 1; type c; put 0 2; meet 0 1; type z; put 1 4
            way 2 = 1,101,2,3,102; deliver 2 3 = w; deliver 2 1 = w; waiting 2 = 2; meet 2 1 = 5; steps 2 = 5; waiting 2 = 0
            then 2 1 = a; then 2 2 = ap; then 2 3 = apb; then 2 4 = apbc; text 2 = apbcz
            """);
    }

    static void doubledEdits() {
        so("doubled, lost and met", """
            type a; put 0 0; repeat 1 0 = 2; repeat 1 1 = 3; deliver 1 1 = h; deliver 1 1 = k; lose 1 0 = 0; text 1 = a
            steps 1 = 1; repeat 2 0 = 2; meet 2 1 = 1; deliver 2 0 = k; deliver 2 0 = k; steps 2 = 1; text 2 = a
            """);
        so("doubled while they wait", """
            type a; put 0 0; type b; put 0 1; repeat 1 1 = 3; repeat 1 1 = 4; deliver 1 2 = w; deliver 1 1 = k; waiting 1 = 1
            deliver 1 0 = h; waiting 1 = 0; steps 1 = 2; way 1 = 2; deliver 1 0 = k; steps 1 = 2; text 1 = ab
            """);
        so("a doubled undoing, heard again behind the doing again", """
            type x; put 0 0; undo 0; repeat 1 1 = 3; redo 0; way 1 = 1,2,2,3; deliver 1 0 = h; text 1 = x; deliver 1 0 = h
            text 1 = nothing; deliver 1 1 = h; text 1 = x; deliver 1 0 = k; text 1 = x; onWay 1 = 0; steps 1 = 3
            """);
        so("doubled edits that are delivered behind forget()", ABC, """
            take 1 1 1; undo 1; take 1 0 1; repeat 2 2 = 5; repeat 2 3 = 6; meetAll; forget = 1; way 2 = 1,101,102,103,102,103
            deliver 2 4 = k; deliver 2 1 = k; deliver 2 0 = k; text 2 = bc; steps 2 = 0; onWay 2 = 3; type x; put 2 1
            deliver 2 0 = k; text 2 = bxc; steps 2 = 1; isTrue = true
            """);
    }

    // ---- cursors

    static void cursorsOfLettersTaken() {
        so("a cursor whose letter is taken out, and brought back", ABC, """
            setCursor 1 2 = 0; take 0 1 1; meet 0 1; cursor 1 = 1; type x; put 1 1; text 1 = axc; cursor 1 = 2; type y
            put 1 2; text 1 = axyc; cursor 1 = 3; undo 0; meet 0 1; text 1 = axybc; cursor 1 = 4; undo 1; cursor 1 = 3
            redo 0; meet 1 0; cursor 1 = 2
            """);
        so("writing where the letter of the cursor is taken out", ABC, """
            setCursor 1 2; take 1 1 1; cursor 1 = 1; type x; write 1 = 2; text 1 = axc; undo 1; cursor 1 = 1; undo 1
            text 1 = abc; cursor 1 = 1; redo 1; redo 1; text 1 = axc; cursor 1 = 2; undo 1; undo 1; type yz; write 1 = 3
            text 1 = ayzbc; undo 1; type q; write 1 = 2; text 1 = aqbc; groups 1 false = 1
            """);
        so("writing where others write", ABC, """
            setCursor 1 1; setCursor 2 1; type x; write 1 = 2; type y; write 2 = 2; type x; write 1 = 3; type y; write 2 = 3
            meet 1 2 = 4; text 1 = ayyxxbc; cursor 1 = 5; cursor 2 = 3; type z; write 2 = 4; text 2 = ayyzxxbc; meet 1 2
            cursor 1 = 6; undo 2; undo 2; meet 1 2; text 1 = ayxxbc; cursor 1 = 4; cursor 2 = 2
            """);
        so("a cursor whose letter is moved", ABC, """
            setCursor 1 2; move 1 1 1 0 = -1; text 1 = bac; cursor 1 = 2; undo 1; cursor 1 = 2; move 1 1 1 2 = 1
            text 1 = acb; cursor 1 = 1; type x; write 1 = 2; text 1 = axcb; undo 1; undo 1; text 1 = abc; cursor 1 = 1
            """);
        so("a cursor in a group that is undone", """
            open 0; type ab; write 0 = 2; type c; write 0 = 3; setCursor 0 1 = 3; type d; write 0 = 2; text 0 = adbc
            undo 0 = 3; cursor 0 = 0; redo 0 = 3; cursor 0 = 2; undo 0; type x; write 0 = 1; text 0 = x; kept 0 = 5
            """);
    }

    static void cursorsOfLettersForgotten() {
        String ahead = ABC + "setCursor 1 2; take 0 1 1; meetAll; cursor 1 = 1;";
        String behind = "type x; put 3 1; meetAll; text 1 = axc;";
        so("a cursor whose letter is taken", ahead, behind, "cursor 1 = 2; type w; write 1 = 3; text 1 = axwc");
        so("a cursor whose letter is forgotten", ahead, "forget = 1; cursor 1 = 1", behind,
            "cursor 1 = 1; type w; write 1 = 2; text 1 = awxc");
        so("a cursor whose letter was undone and is forgotten", ABC, """
            setCursor 1 1; type xy; write 1 = 3; undo 1 = 1; cursor 1 = 1; meetAll; forget = 2; cursor 1 = 1; type q; put 2 1
            meetAll; text 1 = aqbc; cursor 1 = 1
            """);
        so("a cursor whose letter was undone and is kept", ABC, """
            setCursor 1 1; type xy; write 1 = 3; undo 1 = 1; cursor 1 = 1; meetAll; cursor 1 = 1; type q; put 2 1
            meetAll; text 1 = aqbc; cursor 1 = 2; redo 1; text 1 = aqxybc; cursor 1 = 4
            """);
        so("a cursor ahead of whose letter all is forgotten", ABC, """
            setCursor 1 3; setCursor 2 1; setCursor 3 2; take 4 0 3; type z; put 4 0; meetAll; text 0 = z; forget = 3
            cursor 1 = 1; cursor 2 = 1; cursor 3 = 1; setCursor 3 0 = 1; take 4 0 1; meetAll; cursor 1 = 0; type y; put 0 0
            meetAll; cursor 1 = 1; cursor 2 = 1; cursor 3 = 0; undo 0; meetAll; forget = 2; cursor 1 = 0; type x; put 0 0
            meetAll; cursor 1 = 0; cursor 2 = 0; kept 1 = 1
            """);
    }

    // ---- the past

    static void stepsBehindForget() {
        so("undoing and doing again behind forget()", ABC, """
            take 0 1 1; type q; put 2 0; undo 2; meetAll; steps 1 = 4; forget = 2; steps 1 = 0; then 0 0 = ac; then 2 0 = ac
            type x; put 1 1; undo 1; redo 1; steps 1 = 3; then 1 0 = ac; then 1 1 = axc; then 1 2 = ac; then 1 3 = axc
            lengthThen 0 1 ! NoSuchElement; signThen 0 0 2 ! NoSuchElement; signThen 0 0 1 = c; meet 1 4 = 3; then 4 0 = ac
            then 4 1 = axc; then 4 2 = ac; then 4 3 = axc; lengthThen 4 4 ! NoSuchElement; isTrue = true
            """);
        so("steps that are heard in another order than their times'", ABC, """
            take 4 0 3; type z; put 4 0; meetAll; forget = 3; type p; put 0 1; type q; put 1 1; type r; put 2 0; take 1 0 1
            meet 3 2 = 1; meet 3 0 = 2; meet 3 1 = 4; text 3 = rqp; steps 3 = 4; then 3 0 = z; then 3 1 = rz; then 3 2 = rzp
            then 3 3 = rzqp; then 3 4 = rqp; then 1 0 = z; then 1 1 = zq; then 1 2 = q; then 1 3 = qp; then 1 4 = rqp
            meetAll; forget = 1; then 3 0 = rqp; then 4 0 = rqp; lengthThen 3 1 ! NoSuchElement; kept 3 = 3
            """);
        so("steps behind which letters are cut apart", "type abcdef; put 0 0; meetAll; forget = 0; take 1 2 2", """
            mark 1 0 1 b true true; move 1 3 1 0 = -3; text 1 = fabe; then 1 0 = abcdef; then 1 1 = abef; then 1 2 = abef
            then 1 3 = fabe; then 2 0 = abcdef; lengthThen 2 0 = 6; undo 1; undo 1; undo 1; then 1 6 = abcdef; then 1 4 = abef
            """);
    }

    // ---- moves

    static void movesAtTheSameTime() {
        so("a letter that two hands move", ABC, """
            move 1 0 1 2 = 2; move 2 0 1 1 = 1; text 1 = bca; text 2 = bac; meetAll; text 0 = baca; births 0 = 1,201,1,101
            undo 1; text 1 = bac; births 1 = 1,201,1; meetAll; undo 2; text 2 = abc; births 2 = 1,1,1; redo 1; text 1 = baca
            meetAll; text 0 = bca; births 0 = 1,1,101; redo 2; meetAll; text 0 = baca; kept 0 = 5; forget = 1; kept 0 = 4
            """);
        so("a letter that two hands move to one place", ABC, """
            move 1 0 1 2; move 2 0 1 2; meetAll; text 0 = bcaa; births 0 = 1,1,201,101; othersShare 1 = 0.75; meanTime 0 = 1.5
            move 3 2 2 0 = -2; text 3 = aabc; births 3 = 301,301,1,1; meetAll; undo 1; meetAll; text 0 = aabc; undo 3; meetAll
            text 0 = bca; births 0 = 1,1,201
            """);
        so("letters some of which two hands move", ABCD, """
            comment 0 0 4 6 = 2; meetAll; move 1 0 2 2 = 2; move 2 1 2 0 = -1; text 1 = cdab; text 2 = bcad; meetAll
            text 0 = bcdab; births 0 = 201,201,1,101,101; hung 0 = 2:2-2:6; forget = 3; hung 0 = 2:2-2:6; type x; put 0 2
            text 0 = bcxdab; hung 0 = 2:3-3:6
            """);
        so("letters that three hands move", ABC, """
            move 1 0 3 0 = 0; move 2 0 3 0 = 0; move 3 0 2 1 = 1; meetAll; text 0 = abcabcab; births 0 = 201,201,201,101,101,101,301,301
            move 4 0 8 0 = 0; length 4 = 8; births 4 = 401,401,401,401,401,401,401,401; undo 2; undo 1; meetAll; length 0 = 9
            undo 4; text 4 = cab; births 4 = 1,301,301; meetAll; undo 3; text 3 = abc; meetAll; text 0 = abc
            """);
        so("letters that are moved behind one another", ABC, """
            move 1 0 1 2 = 2; move 2 2 1 0 = -2; text 1 = bca; text 2 = cab; meetAll; text 0 = cba; births 0 = 201,1,101
            undo 1; meetAll; text 0 = cab; undo 2; redo 1; meetAll; text 0 = bca
            """);
    }

    static void movesAndOthers() {
        so("a letter that is moved and taken", ABC, """
            take 1 1 1; move 2 1 1 0 = -1; meetAll; text 0 = bac; undo 1; meetAll; text 0 = bac; undo 2; meetAll; text 0 = abc
            redo 1; meetAll; text 0 = ac
            """);
        so("what is put behind a letter that is moved", ABC, """
            type x; put 1 2; move 2 1 1 2 = 1; meetAll; text 0 = axcb; births 0 = 1,101,1,201; type y; put 0 4
            text 0 = axcby; undo 2; text 2 = abxc; meetAll; text 0 = abxcy
            """);
        so("letters that are moved, and replaced at the same time", ABC, """
            type XY; replace 1 0 2 = 3; move 2 1 2 0 = -1; meetAll; text 0 = bcXY; births 0 = 201,201,101,101; undo 2
            text 2 = XYc; undo 1; text 1 = bca; births 1 = 201,201,1; meetAll; text 0 = abc
            """);
        so("moves that are heard late, and undone", ABC, """
            move 1 0 2 1 = 1; move 1 0 1 2 = 2; text 1 = abc; births 1 = 101,101,102; undo 1; text 1 = cab
            way 3 = 1,101,102,103; deliver 3 3 = w; deliver 3 2 = w; deliver 3 1 = h; text 3 = cab; steps 3 = 4
            then 3 2 = cab; then 3 3 = abc; then 3 4 = cab; births 3 = 1,101,101
            """);
    }
}
