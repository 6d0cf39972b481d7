/** Terms: rule texts, undo and errors; promises 25 to 28. */
final class TextSentences {
    private static final String SIX_NESTED = "?c6;?c5;?c4;?c3;?c2;?c1;";
    /** 70 characters: two chains, to which the last rule is wanting. */
    private static final String SEVENTY = "?c001;?c002;?c003;?c004;?c005;?c006;00000?c007;?c008;?c009;?c010;00000";

    private TextSentences() {
    }

    static void check() {
        buffer();
        rules();
        conditions();
        numbers();
        nested();
        blanks();
        errorPositions();
        savedStates();
        wholeState();
        exceptions();
        interfaceSays();
        append();
        clear();
        errorPosition();
        load();
    }

    private static void buffer() {
        Sentences.terms("A buffer contains at most 80 characters.", "type " + SEVENTY + "\n" + """
                append(48) = 71; append(48) = 72; append(48) = 73; append(48) = 74; append(48) = 75
                append(48) = 76; append(48) = 77; append(48) = 78; append(48) = 79
                total(14) = 79
                append(32) = 80; total(14) = 80
                append(32) = ISE; total(14) = 80
                append(48) = ISE
                clear() = 80
                append(48) = 1
                load() = 0
                total(14) = 0
                append(48) = 1
                """);
    }

    /** The text has this error position, -1 if it is a rule. */
    private static String text(String text, int errorPosition) {
        return (text.isEmpty() ? "" : "type " + text + "\n") + "errorPosition() = " + errorPosition + "; total(14) = "
                + text.length() + "; clear() = " + text.length() + "\n";
    }

    private static String loaded(String text, int questions) {
        return "type " + text + "\nerrorPosition() = -1; load() = " + questions + "; total(14) = 0\n";
    }

    private static String lanes(int number) {
        StringBuilder lanes = new StringBuilder();
        for (int i = 0; i < number; i++) {
            lanes.append("addLane(100, 10, 1) = ").append(i).append("\n");
        }
        return lanes.toString();
    }

    private static void rules() {
        StringBuilder digits = new StringBuilder(lanes(6));
        for (int lane = 0; lane < 6; lane++) {
            digits.append(loaded("" + lane, 0)).append("laneFor(7, 10) = ").append(lane).append("\n");
        }
        Sentences.terms("a digit from 0 to 5 (this lane)", digits.toString());
        Sentences.terms("a digit from 0 to 5 (this lane)", text("6", 0) + text("9", 0) + text("/", 0) + text("-1", 0)
                + text("05", 1) + text("?c1;60", 4) + text("?c1;06", 5));
        Sentences.terms("\"x\" (NONE)", lanes(6) + loaded("0", 0) + "laneFor(7, 10) = 0\n" + loaded("x", 0)
                + "laneFor(7, 10) = -1\n" + text("X", 0) + text("xx", 1) + text("w", 0) + text("y", 0));
        Sentences.terms("or \"?\", a condition, a rule and a rule", text("?", 1) + text("?c5", 3) + text("?c5;", 4)
                + text("?c5;0", 5) + text("?c5;01", -1) + text("?c5;012", 6) + text("?01", 1) + text("c5;01", 0)
                + text("?c5;?c6;01", 10) + text("?c5;?c6;012", -1) + text("?c5;0?c6;12", -1) + text("?c5;?c6;01?c7;23", -1));
        Sentences.terms("the first rule is used if the condition holds, and the second one otherwise.", lanes(4)
                + loaded("?c5;01", 1) + "laneFor(4, 10) = 0; laneFor(5, 10) = 1\n"
                + loaded("?c5;x1", 1) + "laneFor(4, 10) = -1; laneFor(5, 10) = 1\n"
                + loaded("?c5;?c3;012", 2) + "laneFor(2, 10) = 0; laneFor(3, 10) = 1; laneFor(5, 10) = 2\n"
                + loaded("?c5;0?c8;12", 2) + "laneFor(4, 10) = 0; laneFor(7, 10) = 1; laneFor(8, 10) = 2\n"
                + loaded("?c5;?l11;01?l11;23", 3)
                + "laneFor(4, 10) = 0; laneFor(4, 11) = 1; laneFor(5, 10) = 2; laneFor(5, 11) = 3\n");
    }

    private static void conditions() {
        Sentences.terms("A condition is \"c\", a number and \";\" (the code is less than the number)", lanes(2)
                + loaded("?c0;01", 1) + "laneFor(0, 10) = 1\n"
                + loaded("?c1;01", 1) + "laneFor(0, 10) = 0; laneFor(1, 10) = 1\n"
                + loaded("?c50;01", 1) + "laneFor(49, 400) = 0; laneFor(50, 10) = 1; laneFor(51, 10) = 1\n"
                + loaded("?c999;01", 1) + "laneFor(998, 10) = 0; laneFor(999, 10) = 1\n");
        Sentences.terms("\"l\", a number and \";\" (the length is less than the number)", lanes(2)
                + loaded("?l0;01", 1) + "laneFor(0, 10) = 1\n"
                + loaded("?l10;01", 1) + "laneFor(0, 10) = 1; laneFor(0, 11) = 1\n"
                + loaded("?l11;01", 1) + "laneFor(999, 10) = 0; laneFor(0, 11) = 1\n"
                + loaded("?l400;01", 1) + "laneFor(0, 399) = 0; laneFor(0, 400) = 1\n"
                + loaded("?l401;01", 1) + "laneFor(0, 400) = 0\n"
                + loaded("?l999;01", 1) + "laneFor(999, 400) = 0\n");
        Sentences.terms("(the remainder of the code divided by the first number is equal to the second one", lanes(2)
                + loaded("?m7,3;01", 1)
                + "laneFor(3, 10) = 0; laneFor(10, 10) = 0; laneFor(2, 10) = 1; laneFor(4, 10) = 1; laneFor(7, 10) = 1\n"
                + loaded("?m7,0;01", 1) + "laneFor(0, 10) = 0; laneFor(7, 10) = 0; laneFor(6, 10) = 1\n"
                + loaded("?m7,6;01", 1) + "laneFor(6, 10) = 0; laneFor(7, 10) = 1\n"
                + loaded("?m7,7;01", 1) + "laneFor(7, 10) = 1; laneFor(0, 10) = 1\n"
                + loaded("?m1,0;01", 1) + "laneFor(0, 10) = 0; laneFor(999, 10) = 0\n"
                + loaded("?m999,0;01", 1) + "laneFor(0, 10) = 0; laneFor(999, 10) = 0; laneFor(998, 10) = 1\n"
                + loaded("?m999,998;01", 1) + "laneFor(998, 10) = 0; laneFor(999, 10) = 1\n");
        Sentences.terms("the first number is not 0)", text("?m0,0;01", 3) + text("?m00,0;01", 4) + text("?m000,0;01", 5)
                + text("?m1,0;01", -1) + text("?m001,0;01", -1) + text("?m010,0;01", -1) + text("?m100,000;01", -1));
        Sentences.terms("or \"m\", a number, \",\", a number and \";\"", text("?m", 2) + text("?m,", 2) + text("?m;", 2)
                + text("?m7", 3) + text("?m7;", 3) + text("?m7,", 4) + text("?m7,;", 4) + text("?m7,,", 4) + text("?m7,3", 5)
                + text("?m7,3,", 5) + text("?m7,3;", 6) + text("?c7,3;", 3) + text("?l7,3;", 3) + text("?n7,3;", 1) + text("?b7;", 1));
    }

    private static void numbers() {
        Sentences.terms("A number consists of 1 to 3 digits.", text("?c;01", 2) + text("?c1;01", -1) + text("?c12;01", -1)
                + text("?c123;01", -1) + text("?c1234;01", 5) + text("?c0001;01", 5) + text("?l;01", 2) + text("?l000;01", -1)
                + text("?l1000;01", 5) + text("?m,1;01", 2) + text("?m1,;01", 4) + text("?m123,456;01", -1)
                + text("?m1234,5;01", 5) + text("?m0000,5;01", 5) + text("?m1,1234;01", 7));
        Sentences.terms("A number consists of 1 to 3 digits.", lanes(2)
                + loaded("?c010;01", 1) + "laneFor(9, 10) = 0; laneFor(10, 10) = 1; laneFor(7, 10) = 0\n"
                + loaded("?c120;01", 1) + "laneFor(119, 10) = 0; laneFor(120, 10) = 1\n");
    }

    private static void nested() {
        Sentences.terms("At most 6 \"?\" are nested in one another.", text(SIX_NESTED + "0123450", -1)
                + text(SIX_NESTED + "?", 24) + text(SIX_NESTED + "0?", 25) + text(SIX_NESTED + "00?c7;000000", -1)
                + text(SIX_NESTED + "00?c7;0?", 31) + text(SIX_NESTED + "00?c7;000?c8;0?c9;0000", -1)
                + text("?c1;0?c2;0?c3;0?c4;0?c5;0?c6;00", -1) + text("?c1;0?c2;0?c3;0?c4;0?c5;0?c6;0?", 30));
        Sentences.terms("At most 6 \"?\" are nested in one another.", lanes(6) + loaded(SIX_NESTED + "012345x", 6)
                + "laneFor(0, 10) = 0; laneFor(1, 10) = 1; laneFor(2, 10) = 2; laneFor(3, 10) = 3\n"
                + "laneFor(4, 10) = 4; laneFor(5, 10) = 5; laneFor(6, 10) = -1\n"
                + "type " + SIX_NESTED + "?\nload() = ISE; clear() = 25\n"
                + "laneFor(0, 10) = 0; laneFor(5, 10) = 5");
    }

    private static void blanks() {
        Sentences.terms("There are no blanks.", "append(32) = 1; errorPosition() = 0; load() = ISE; clear() = 1\n"
                + "append(48) = 1; append(32) = 2; errorPosition() = 1; load() = ISE; clear() = 2\n"
                + text("? c1;00", 1) + text("?c 1;00", 2) + text("?c1 ;00", 3) + text("?c1; 00", 4) + text("?c1;0 0", 5));
    }

    private static void errorPositions() {
        Sentences.terms("The error position is the index of the first character that is not allowed at its place",
                text("!", 0) + text("0!", 1) + text("?!", 1) + text("?c!", 2) + text("?c1!", 3) + text("?c12!", 4) + text("?c123!", 5)
                + text("?c1;!", 4) + text("?c1;0!", 5) + text("?c1;01!", 6) + text("?m!", 2) + text("?m1!", 3) + text("?m123!", 5)
                + text("?m1,!", 4) + text("?m1,2!", 5) + text("?m1,2;!", 6) + text("!!", 0) + text("?!!!", 1));
        Sentences.terms("(a first number of \"m\" that is 0 is an error at the \",\" behind it",
                text("?m0", 3) + text("?m0,", 3) + text("?m0,1;01", 3) + text("?m00", 4) + text("?m00,1;01", 4) + text("?m000", 5)
                + text("?m000,1;01", 5) + text("?m01,1;01", -1) + text("?m0;", 3) + text("?c1;?m0,1;012", 7) + text("?m1,0;01", -1));
        Sentences.terms("a \"?\" that is nested too deep is an error at this \"?\")", text(SIX_NESTED + "?c7;01234567", 24)
                + text(SIX_NESTED + "0?c7;0", 25) + text("?c1;" + SIX_NESTED + "01234567", 24) + text("?c1;0" + SIX_NESTED + "0", 25)
                + text(SIX_NESTED + "!", 24));
        Sentences.terms("or the length of the text if it ends too early.", text("", 0) + text("?", 1) + text("?c", 2) + text("?c1", 3)
                + text("?c12", 4) + text("?c123", 5) + text("?c1;", 4) + text("?c1;0", 5) + text("?l", 2) + text("?m", 2) + text("?m1", 3)
                + text("?m1,", 4) + text("?m1,2", 5) + text("?m1,234", 7) + text("?m1,2;", 6) + text(SIX_NESTED, 24)
                + text(SIX_NESTED + "012345", 30));
        Sentences.terms("or the length of the text if it ends too early.", text(SEVENTY + "?m007,001;", 80)
                + text(SEVENTY + "?m07,1;000", 79) + text(SEVENTY + "?m07,01;01", -1) + text(SEVENTY + "?m07,001;0", 80));
    }

    private static void savedStates() {
        // What each call changes is told by the tests of its promise; here it changes nothing, and saves all the same.
        Sentences.terms("Each successful call of a method that is marked as undoable saves the state from before the call, "
                + "even if the call changes nothing.", """
                addLane(100, 10, 1) = 0; total(13) = 1
                set(0, 300) = 300; total(13) = 2
                emptyLane(0) = 0; total(13) = 3
                route(7, 0) = -1; total(13) = 4
                route(7, 0) = 0; total(13) = 5
                type x
                total(13) = 5
                load() = 0; total(13) = 6
                undo() = 5; undo() = 4
                routeAt(0) = 70
                undo() = 3
                routeAt(0) = -1
                undo() = 2; undo() = 1
                total(6) = 1
                undo() = 0
                total(6) = 0
                """);
        Sentences.terms("Each successful call", """
                # those that are not marked save nothing
                append(48) = 1; clear() = 1; append(48) = 1; errorPosition() = -1
                total(13) = 0
                move(1) = 0; total(13) = 1
                undo() = 0; total(13) = 0
                """);
        Sentences.terms("At most 6 states are saved", """
                total(13) = 0
                5 times move(1) = 0
                total(13) = 5
                move(1) = 0; total(13) = 6
                move(1) = 0; total(13) = 6
                3 times move(1) = 0
                total(13) = 6; total(0) = 10
                undo() = 5; undo() = 4; undo() = 3; undo() = 2; undo() = 1; undo() = 0
                undo() = ISE
                total(0) = 4
                """);
        Sentences.terms("when one more is saved, the oldest one is dropped.", """
                move(1) = 0; move(2) = 0; move(4) = 0; move(8) = 0; move(16) = 0; move(32) = 0; move(64) = 0
                total(0) = 127
                undo() = 5; total(0) = 63
                move(128) = 0; total(13) = 6
                undo() = 5; total(0) = 63
                undo() = 4; total(0) = 31
                undo() = 3; total(0) = 15
                undo() = 2; total(0) = 7
                undo() = 1; total(0) = 3
                undo() = 0; total(0) = 1
                undo() = ISE; total(0) = 1
                """);
    }

    private static void wholeState() {
        Sentences.terms("The state is everything but the buffer and the saved states.", """
                # the buffer
                type ?c1
                move(1) = 0
                append(59) = 4
                undo() = 0
                total(14) = 4; errorPosition() = 4
                move(1) = 0
                clear() = 4
                undo() = 0
                total(14) = 0
                type 0
                load() = 0
                total(14) = 0
                undo() = 0
                # the rule is back, but the text is not
                total(14) = 0; errorPosition() = 0; clear() = 0
                """);
        Sentences.terms("The state is everything", """
                # settings, lanes with their contents, routes, rule, parts, stray reads, distance: all at once
                set(0, 50) = 300; set(1, 0) = 20
                addLane(46, 1, 1) = 0; route(7, 0) = -1
                type 0
                load() = 0
                enter(10) = 0; move(50) = 0; read(7) = 0; move(1) = 1
                set(0, 60) = 50; undo() = 5
                setting(0) = 50
                emptyLane(0) = 1; undo() = 5
                lane(0, 3) = 1; lane(0, 4) = 1
                undo() = 4
                lane(0, 3) = 0; lane(0, 4) = 0; part(0, 1) = 0; part(0, 2) = 50; total(0) = 50; total(3) = 0
                undo() = 3
                part(0, 3) = -1
                undo() = 2
                part(0, 2) = 0; total(0) = 0
                undo() = 1
                total(1) = 0; laneFor(6, 10) = 0
                undo() = 0
                laneFor(6, 10) = -1; laneFor(7, 10) = 0
                """);
    }

    private static void exceptions() {
        Sentences.terms("A call that throws an exception changes nothing.", """
                # each call that can throw does so; what can be seen stays the same around each of them
                set(0, 50) = 300; set(1, 0) = 20
                addLane(46, 1, 1) = 0; route(7, 0) = -1
                enter(10) = 0; move(50) = 0; read(7) = 0; move(1) = 1; enter(400) = 1; move(7) = 0
                type ?c1;0
                set(6, 50) = IOOBE; set(0, 49) = IAE; set(0, 50) = ISE
                addLane(0, 1, 1) = IAE; emptyLane(1) = IOOBE
                route(1000, 0) = IAE; route(7, 1) = IOOBE; removeRoute(1000) = IAE; removeRoute(8) = ISE
                enter(9) = IAE; enter(10) = ISE; read(1000) = IAE; move(501) = IAE
                takeOff(2) = IOOBE; takeOff(0) = ISE
                part(2, 0) = IOOBE; part(0, 10) = IAE; lane(1, 0) = IOOBE; lane(0, 6) = IAE
                total(15) = IAE; lost(7) = IAE; setting(6) = IOOBE; routeAt(-1) = IAE
                gapAhead(2) = IOOBE; gapAhead(0) = ISE; ranked(-1) = IAE; fateOf(2) = IOOBE
                laneFor(1000, 10) = IAE; laneFor(0, 9) = IAE; append(127) = IAE; load() = ISE
                total(14) = 5; total(13) = 6
                undo() = 5; part(1, 2) = 0
                undo() = 4; total(1) = 1
                undo() = 3; part(0, 1) = 0
                undo() = 2; part(0, 3) = -1
                """);
        String several = "If several exceptions apply, the one that is listed first is thrown.";
        Sentences.terms(several, """
                enter(10) = 0
                # index and value; index and parts on the belt; value and parts on the belt; all three
                set(6, -1) = IOOBE; set(-1, 300) = IOOBE; set(0, 49) = IAE; set(5, 101) = IAE
                set(6, 2147483647) = IOOBE
                """);
        Sentences.terms(several, lanes(6) + """
                addLane(0, 1, 1) = IAE; addLane(1, 201, 1) = IAE; addLane(1, 1, 51) = IAE; addLane(1, 1, 1) = ISE
                # code and lane
                route(-1, 6) = IAE; route(1000, -1) = IAE
                """);
        StringBuilder thirty = new StringBuilder(lanes(1));
        for (int code = 0; code < 30; code++) {
            thirty.append("route(").append(code).append(", 0) = -1\n");
        }
        Sentences.terms(several, thirty + """
                # code and number of routes; lane and number of routes; all three
                route(1000, 0) = IAE; route(30, 1) = IOOBE; route(1000, 1) = IAE; route(30, 0) = ISE
                removeRoute(1000) = IAE
                """);
        Sentences.terms(several, """
                100 times move(500) = 0
                # millimeters and distance
                move(501) = IAE; move(0) = IAE; move(500) = ISE
                enter(400) = 0
                # length and entry
                enter(9) = IAE; enter(401) = IAE; enter(400) = ISE
                # part and property; part and its place
                part(1, 10) = IOOBE; part(-1, -1) = IOOBE; takeOff(1) = IOOBE; gapAhead(1) = IOOBE
                lane(0, 6) = IOOBE; lane(-1, -1) = IOOBE
                """);
        Sentences.terms(several, "type " + SEVENTY + "\n" + """
                append(48) = 71; append(48) = 72; append(48) = 73; append(48) = 74; append(48) = 75
                append(48) = 76; append(48) = 77; append(48) = 78; append(48) = 79; append(48) = 80
                append(31) = IAE; append(127) = IAE; append(48) = ISE
                """);
    }

    private static void interfaceSays() {
        Sentences.terms("The constants: `NONE = -1`: There is no such value.", """
                addLane(100, 10, 1) = 0
                route(7, 0) = -1; read(7) = -1; routeAt(1) = -1; laneFor(8, 10) = -1; ranked(0) = -1; nextLeaving() = -1
                type x
                errorPosition() = -1
                enter(10) = 0
                part(0, 3) = -1; part(0, 8) = -1; gapAhead(0) = -1
                """);
        Script.due("Terms: NONE", String.valueOf(PickScanner.NONE), "-1");
        Sentences.noCase("Terms", "the interface says: ---- settings, lanes, routes.");
        Sentences.noCase("Terms", "the interface says: ---- the belt.");
        Sentences.noCase("Terms", "the interface says: ---- what there is.");
        Sentences.noCase("Terms", "the interface says: ---- rule texts.");
        Sentences.terms("what would be, if nothing else is done; nothing changes, and the limit of the distance does not apply.", """
                set(0, 50) = 300; set(3, 0) = 40; set(4, 5000) = 2000
                addLane(4000, 10, 1) = 0; route(7, 0) = -1
                99 times move(500) = 0
                enter(10) = 0; move(50) = 0; read(7) = 0; enter(400) = 1; move(450) = 0
                total(0) = 50000
                move(1) = ISE
                fateOf(0) = 10; fateOf(1) = 1; entryIn() = 0; nextLeaving() = 3505; laneFor(7, 10) = 0
                enter(400) = 2; entryIn() = 405; fateOf(2) = 1
                total(0) = 50000; part(0, 2) = 500; part(1, 2) = 450; part(2, 2) = 0
                part(0, 1) = 0; lane(0, 3) = 0; lane(0, 4) = 0; total(2) = 3; total(13) = 6
                move(1) = ISE
                """);
    }

    private static void append() {
        Sentences.promise(25, "Appends a character to the buffer.", """
                type 0
                errorPosition() = -1
                append(48) = 2; errorPosition() = 1
                clear() = 2
                type ?c7;01
                errorPosition() = -1; total(13) = 0
                """);
        Sentences.promise(25, "`code`: its code, 32 to 126", """
                append(31) = IAE; total(14) = 0
                append(32) = 1
                append(127) = IAE; total(14) = 1
                append(126) = 2
                """);
        Sentences.promise(25, "Returns the length of the text.", """
                append(63) = 1; append(63) = 2; append(63) = 3; clear() = 3; append(63) = 1; total(14) = 1
                """);
        Sentences.promise(25, "Throws `IllegalArgumentException` if code is out of range", """
                append(-1) = IAE; append(0) = IAE; append(9) = IAE; append(31) = IAE; append(127) = IAE
                append(128) = IAE; append(255) = IAE; append(65536) = IAE
                # these would be "0" if they were cut off to 8 or 16 bits
                append(304) = IAE; append(65584) = IAE; append(-65488) = IAE
                append(2147483647) = IAE; append(-2147483648) = IAE
                total(14) = 0; errorPosition() = 0
                """);
        Sentences.promise(25, "Throws `IllegalStateException` if the text has 80 characters", """
                type 0123456789012345678901234567890123456789012345678901234567890123456789012345678
                append(57) = 80
                append(48) = ISE; append(126) = ISE
                clear() = 80
                append(48) = 1; errorPosition() = -1
                """);
    }

    private static void clear() {
        Sentences.promise(26, "Empties the buffer.", """
                type ?c
                clear() = 2; total(14) = 0; errorPosition() = 0
                append(48) = 1; errorPosition() = -1
                total(13) = 0
                undo() = ISE
                """);
        Sentences.promise(26, "Returns the length that the text had.", """
                clear() = 0
                append(48) = 1; clear() = 1
                clear() = 0
                type 01234567890123456789012345678901234567890123456789012345678901234567890123456789
                clear() = 80; clear() = 0
                """);
    }

    private static void errorPosition() {
        Sentences.promise(27, "Returns the error position of the text.", """
                addLane(100, 10, 1) = 0
                type 0
                load() = 0
                type ?c1;y
                errorPosition() = 4; errorPosition() = 4
                # the text stays, and so does the rule
                total(14) = 5; total(13) = 2; laneFor(7, 10) = 0
                clear() = 5
                type x
                errorPosition() = -1
                laneFor(7, 10) = 0; total(14) = 1; total(13) = 2
                """);
        Sentences.promise(27, "NONE if the text is a rule.", text("", 0) + text("0", -1) + text("00", 1) + text("x", -1)
                + text("?m999,999;5x", -1) + text(SEVENTY + "?m07,01;01", -1));
    }

    private static void load() {
        Sentences.promise(28, "Makes the text the rule, and empties the buffer.", lanes(2) + """
                type ?l50;01
                laneFor(0, 10) = -1
                load() = 1
                laneFor(0, 49) = 0; laneFor(0, 50) = 1
                total(14) = 0; clear() = 0; errorPosition() = 0
                load() = ISE
                type x
                laneFor(0, 49) = 0
                load() = 0
                laneFor(0, 49) = -1
                """);
        Sentences.promise(28, "Returns the number of \"?\" in the rule.", loaded("0", 0) + loaded("?c1;00", 1)
                + loaded("?c1;?c2;000", 2) + loaded("?c1;?c2;00?c3;00", 3) + loaded("?m1,0;x?l1;00", 2)
                + loaded(SIX_NESTED + "0123450", 6) + loaded(SEVENTY + "?m07,01;01", 11));
        Sentences.promise(28, "Throws `IllegalStateException` if the text is not a rule", lanes(1) + """
                load() = ISE
                type 0
                load() = 0
                type ?c1;0
                load() = ISE
                total(14) = 5; laneFor(0, 10) = 0
                append(48) = 6; append(48) = 7
                load() = ISE
                total(14) = 7; laneFor(0, 10) = 0; total(13) = 2
                clear() = 7
                type ?m0,0;xx
                load() = ISE
                laneFor(0, 10) = 0
                """);
        Sentences.undoable(28, lanes(2) + "type ?c7;01\nload() = 1", "type ?c7;10\nload() = 1");
    }
}
