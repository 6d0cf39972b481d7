/** Terms: routing and moving. */
final class MovingSentences {
    /** The scanner as near as can be, and no shadow. */
    private static final String NEAR = "set(0, 50) = 300; set(1, 0) = 20\n";
    /** A part of 10 mm at the scanner, which has read code 7; its middle is at 45. */
    private static final String READ_PART = NEAR + "enter(10) = 0; move(50) = 0; read(7) = 0\n";

    private MovingSentences() {
    }

    static void check() {
        lanes();
        routes();
        laneOfPart();
        ruleOfLanes();
        steps();
        order();
        window();
        gapAhead();
        gapBehind();
        capacity();
        leavesAtOnce();
        failure();
        end();
        reasons();
        orderOfReasons();
        fates();
    }

    private static void lanes() {
        Sentences.terms("There are at most 6 lanes, numbered from 0.", """
                lane(0, 0) = IOOBE; total(6) = 0
                addLane(1, 1, 1) = 0; addLane(2, 1, 1) = 1; addLane(3, 1, 1) = 2
                addLane(4, 1, 1) = 3; addLane(5, 1, 1) = 4; addLane(6, 1, 1) = 5
                total(6) = 6
                addLane(7, 1, 1) = ISE
                total(6) = 6
                lane(0, 0) = 1; lane(5, 0) = 6; lane(6, 0) = IOOBE
                undo() = 5
                lane(5, 0) = IOOBE
                addLane(7, 1, 1) = 5; lane(5, 0) = 7
                """);
        Sentences.terms("A lane has a position, a window, a capacity, and a content, the number of parts in it.", NEAR + """
                addLane(60, 20, 3) = 0; route(7, 0) = -1
                lane(0, 0) = 60; lane(0, 1) = 20; lane(0, 2) = 3; lane(0, 3) = 0
                enter(10) = 0; move(50) = 0; read(7) = 0; move(15) = 1
                lane(0, 3) = 1
                enter(10) = 1; move(50) = 0; read(7) = 1; move(15) = 1
                lane(0, 3) = 2; lane(0, 2) = 3
                emptyLane(0) = 2; lane(0, 3) = 0
                """);
    }

    private static void routes() {
        Sentences.terms("There is a table of routes, each of which leads a code to a lane, and a rule.", """
                addLane(60, 20, 3) = 0; addLane(60, 20, 3) = 1
                route(7, 0) = -1; route(8, 1) = -1
                type 1
                load() = 0
                laneFor(7, 10) = 0; laneFor(8, 10) = 1; laneFor(9, 10) = 1; laneFor(6, 10) = 1
                """);
        Sentences.terms("At first there are no routes, and the rule gives NONE.", """
                total(7) = 0; routeAt(0) = -1
                addLane(60, 20, 3) = 0
                laneFor(0, 10) = -1; laneFor(999, 400) = -1
                undo() = 0
                laneFor(0, 10) = -1
                """);
    }

    private static void laneOfPart() {
        String start = NEAR + """
                addLane(500, 20, 3) = 0; addLane(600, 20, 3) = 1
                type 1
                load() = 0
                enter(10) = 0; move(50) = 0
                """;
        Sentences.terms("The lane of a part is NONE if it has no code", start + """
                # the rule would give lane 1 for each code
                part(0, 8) = -1; fateOf(0) = 1
                read(0) = 0
                part(0, 8) = 1; fateOf(0) = 11
                """);
        Sentences.terms("is conflicting", start + """
                read(7) = 0; part(0, 8) = 1
                read(8) = 0; part(0, 8) = -1
                route(7, 0) = -1; part(0, 8) = -1
                """);
        Sentences.terms("or is merged", start + """
                read(7) = 0; part(0, 8) = 1
                takeOff(0) = 50
                enter(100) = 1; move(100) = 0; read(7) = 1; part(1, 8) = 1
                enter(10) = 2; part(1, 8) = -1; fateOf(1) = 3
                route(7, 0) = -1; part(1, 8) = -1
                """);
        Sentences.terms("otherwise the lane of the route of its code if there is such a route", start + """
                route(7, 0) = -1
                read(7) = 0; part(0, 8) = 0; fateOf(0) = 10
                route(7, 1) = 0; part(0, 8) = 1
                route(7, 0) = 1; route(8, 1) = -1; route(6, 1) = -1; part(0, 8) = 0
                """);
        Sentences.terms("otherwise the result of the rule.", start + """
                route(6, 0) = -1; route(8, 0) = -1
                read(7) = 0; part(0, 8) = 1; fateOf(0) = 11
                type ?l11;0x
                load() = 1
                part(0, 8) = 0
                type ?l10;0x
                load() = 1
                part(0, 8) = -1; fateOf(0) = 4
                """);
    }

    private static void ruleOfLanes() {
        Sentences.terms("A rule gives a lane or NONE, and NONE if it gives a lane that does not exist.", """
                type 0
                load() = 0; laneFor(7, 10) = -1
                addLane(100, 1, 1) = 0
                laneFor(7, 10) = 0
                type 1
                load() = 0; laneFor(7, 10) = -1
                type 5
                load() = 0; laneFor(7, 10) = -1
                addLane(100, 1, 1) = 1; addLane(100, 1, 1) = 2; addLane(100, 1, 1) = 3; addLane(100, 1, 1) = 4
                laneFor(7, 10) = -1
                addLane(100, 1, 1) = 5
                laneFor(7, 10) = 5
                type x
                load() = 0; laneFor(7, 10) = -1
                """);
        Sentences.terms("and NONE if it gives a lane that does not exist.", READ_PART + """
                addLane(60, 20, 3) = 0
                type 1
                load() = 0
                part(0, 8) = -1; fateOf(0) = 4; ranked(0) = 0
                move(500) = 0; part(0, 9) = 0
                """);
    }

    private static void steps() {
        Sentences.terms("The belt moves millimeter by millimeter.", NEAR + """
                # each part leaves where its middle first comes to its lane, in one move
                set(3, 0) = 40
                addLane(100, 1, 1) = 0; addLane(200, 1, 1) = 1; route(7, 1) = -1; route(8, 0) = -1
                enter(10) = 0; move(25) = 0; enter(10) = 1; move(25) = 0
                read(7) = 0; move(25) = 0; read(8) = 1
                part(0, 2) = 75; part(1, 2) = 50
                nextLeaving() = 55
                move(500) = 2
                part(0, 1) = 11; part(0, 2) = 205
                part(1, 1) = 10; part(1, 2) = 105
                """);
        Sentences.terms("The belt moves millimeter by millimeter.", READ_PART + """
                # in its window from the first of many millimeters on
                addLane(40, 20, 1) = 0; route(7, 0) = -1
                move(500) = 1; part(0, 1) = 10; part(0, 2) = 51
                """);
        String untilPart0IsLost = NEAR + """
                set(3, 15) = 40; set(4, 1000) = 2000; addLane(900, 200, 9) = 0; route(7, 0) = -1
                enter(10) = 0; move(20) = 0; enter(10) = 1; move(50) = 0; read(7) = 1
                move(500) = 0
                """;
        Sentences.terms("The belt moves millimeter by millimeter.", untilPart0IsLost + """
                # part 0 is lost, and one millimeter later the gap ahead of part 1 is great enough
                move(500) = 2; part(0, 1) = 1; part(0, 2) = 1000; part(1, 1) = 10; part(1, 2) = 981
                """);
        Sentences.terms("The belt moves millimeter by millimeter.", untilPart0IsLost + """
                # the same in moves of one millimeter each
                429 times move(1) = 0
                part(1, 9) = 5
                move(1) = 1; part(0, 1) = 1; part(0, 2) = 1000
                move(1) = 1; part(1, 1) = 10; part(1, 2) = 981
                """);
        Sentences.noCase("Terms", "In each millimeter, these steps happen one after the other:");
        Sentences.terms("The distance and the fronts of all parts on the belt increase by 1.", """
                enter(10) = 0; move(20) = 0; enter(10) = 1; move(30) = 0; enter(10) = 2
                takeOff(1) = 30
                move(1) = 0
                total(0) = 51
                part(0, 2) = 51; part(1, 2) = 30; part(2, 2) = 1
                move(500) = 0
                total(0) = 551
                part(0, 2) = 551; part(1, 2) = 30; part(2, 2) = 501
                """);
    }

    private static void order() {
        Sentences.terms("the one with the greatest front first.", NEAR + """
                # both parts wait in the window of a full lane, in which there is room for one of them then
                addLane(100, 200, 1) = 0; route(7, 0) = -1; route(8, 0) = -1
                enter(10) = 0; move(50) = 0; read(7) = 0
                enter(10) = 1; move(50) = 0; read(8) = 1
                enter(10) = 2; move(50) = 1; read(7) = 2
                move(60) = 0
                part(1, 9) = 6; part(2, 9) = 6
                emptyLane(0) = 1
                move(1) = 1
                part(1, 1) = 10; part(2, 1) = 0
                """);
    }

    private static void window() {
        // After the read, the part is processed for the first time with its middle at 46.
        int[][] windowsAndFates = {{45, 1, 4}, {45, 2, 10}, {46, 1, 10}, {47, 1, 10}, {26, 20, 4}, {26, 21, 10}, {1, 45, 4}, {1, 46, 10}};
        for (int[] row : windowsAndFates) {
            Sentences.terms("and its middle is at least the position of the lane and less than position + window, it is tried.",
                    READ_PART + "addLane(" + row[0] + ", " + row[1] + ", 1) = 0; route(7, 0) = -1\nfateOf(0) = " + row[2]);
        }
        String quote = "at least the position of the lane";
        Sentences.terms(quote, READ_PART + """
                addLane(100, 5, 1) = 0; route(7, 0) = -1
                move(54) = 0
                # the middle is at 99
                part(0, 2) = 104; part(0, 1) = 0; part(0, 9) = 0
                move(1) = 1
                part(0, 2) = 105; part(0, 1) = 10
                """);
        String tooNear = NEAR + """
                set(3, 500) = 40
                addLane(100, 5, 1) = 0; route(7, 0) = -1
                enter(10) = 0; move(20) = 0; enter(10) = 1; move(30) = 0; read(7) = 0
                """;
        Sentences.terms("less than position + window", tooNear + """
                # tried without success from 100 to 104
                move(54) = 0; part(0, 9) = 0
                move(1) = 0; part(0, 9) = 5
                move(3) = 0
                takeOff(1) = 88
                # the middle is at 103
                part(0, 2) = 108
                move(1) = 1; part(0, 1) = 10; part(0, 2) = 109
                """);
        Sentences.terms("less than position + window", tooNear + """
                move(59) = 0; part(0, 9) = 5
                takeOff(1) = 89
                # the middle is at 104
                part(0, 2) = 109
                fateOf(0) = 5
                move(1) = 0; part(0, 1) = 0
                """);
        Sentences.terms("If a part has a lane", NEAR + """
                # no code: it is not even tried
                addLane(100, 200, 1) = 0
                type 0
                load() = 0
                enter(10) = 0
                move(200) = 0; part(0, 1) = 0; part(0, 9) = 0
                """);
    }

    /** Parts 0 and 1 of 10 mm, so far behind one another; part 1 is at the scanner, and its lane is at 100. */
    private static String behindOneAnother(int gap) {
        return NEAR + "addLane(100, 5, 1) = 0; route(7, 0) = -1\n"
                + "enter(10) = 0; move(" + (10 + gap) + ") = 0; enter(10) = 1; move(50) = 0; read(7) = 1; gapAhead(1) = " + gap + "\n";
    }

    /** Part 0 is at the scanner, its lane is at 100, and part 1 is so far behind it. */
    private static String withOneBehind(int gap) {
        return NEAR + "addLane(100, 5, 1) = 0; route(7, 0) = -1\n"
                + "enter(10) = 0; move(" + (10 + gap) + ") = 0; enter(10) = 1; move(" + (40 - gap)
                + ") = 0; read(7) = 0; gapAhead(1) = " + gap + "\n";
    }

    private static void gapAhead() {
        String quote = "It is diverted if the tail of the part ahead of it minus its front is at least the gap";
        Sentences.terms(quote, behindOneAnother(40) + """
                move(54) = 0
                move(1) = 1; part(1, 1) = 10
                """);
        Sentences.terms(quote, behindOneAnother(39) + """
                move(55) = 0; part(1, 1) = 0; part(1, 9) = 5
                fateOf(1) = 5
                """);
        Sentences.terms("(or there is no part ahead)", behindOneAnother(39) + """
                takeOff(0) = 99
                fateOf(1) = 10
                move(55) = 1; part(1, 1) = 10
                """);
    }

    private static void gapBehind() {
        String quote = "its tail minus the front of the part behind it is at least the gap";
        Sentences.terms(quote, withOneBehind(39) + """
                move(55) = 0; part(0, 1) = 0; part(0, 9) = 5
                fateOf(0) = 5
                """);
        Sentences.terms(quote, NEAR + """
                # gap 40, as the part entered just when part 0 was at the scanner
                addLane(100, 5, 1) = 0; route(7, 0) = -1
                enter(10) = 0; move(50) = 0; enter(10) = 1; read(7) = 0
                gapAhead(1) = 40
                move(54) = 0
                move(1) = 1; part(0, 1) = 10
                """);
        Sentences.terms("(or there is none)", withOneBehind(10) + """
                takeOff(1) = 30
                fateOf(0) = 10
                move(55) = 1; part(0, 1) = 10
                """);
    }

    private static void capacity() {
        String quote = "and the content of the lane is less than its capacity.";
        Sentences.terms(quote, behindOneAnother(60) + """
                # part 1 fills the lane
                lane(0, 2) = 1
                move(55) = 1; lane(0, 3) = 1
                enter(10) = 2; move(50) = 0; read(7) = 2
                fateOf(2) = 6
                move(55) = 0; part(2, 9) = 6; lane(0, 3) = 1; lane(0, 4) = 1
                emptyLane(0) = 1
                fateOf(2) = 10
                move(1) = 1; part(2, 1) = 10; lane(0, 3) = 1; lane(0, 4) = 2
                """);
        StringBuilder fifty = new StringBuilder(NEAR + "addLane(46, 1, 50) = 0; route(7, 0) = -1\n");
        for (int i = 0; i < 50; i++) {
            fifty.append("enter(10) = ").append(i).append("; move(50) = 0; read(7) = ").append(i).append("; move(1) = 1\n");
        }
        Sentences.terms(quote, fifty + """
                # a lane of the greatest capacity
                lane(0, 3) = 50; lane(0, 4) = 50; total(3) = 50
                enter(10) = 50; move(50) = 0; read(7) = 50
                move(1) = 0; part(50, 9) = 6; lane(0, 3) = 50
                """);
    }

    private static void leavesAtOnce() {
        String two = NEAR + """
                set(3, 0) = 40
                addLane(100, 100, CAPACITY) = 0
                enter(10) = 0; move(50) = 0; read(7) = 0
                enter(10) = 1; move(50) = 0; read(7) = 1
                move(60) = 0
                # both are in the window, and get the lane at the same time
                route(7, 0) = -1
                part(0, 2) = 160; part(1, 2) = 110
                """;
        Sentences.terms("A part that is diverted leaves the belt at once (before the next part is processed)",
                two.replace("CAPACITY", "2") + """
                nextLeaving() = 1
                move(1) = 2
                part(0, 1) = 10; part(1, 1) = 10; total(2) = 0
                part(0, 2) = 161; part(1, 2) = 111
                lane(0, 3) = 2
                """);
        Sentences.terms("and the content of the lane increases by 1.", two.replace("CAPACITY", "1") + """
                # the lane is full before part 1 is processed in the same millimeter
                fateOf(0) = 10; fateOf(1) = 6
                move(1) = 1
                part(0, 1) = 10; part(1, 1) = 0; part(1, 9) = 6
                lane(0, 3) = 1; lane(0, 4) = 1
                """);
    }

    private static void failure() {
        Sentences.terms("its failure becomes 5 if a gap is too small", NEAR + """
                # the lane is full as well
                set(3, 100) = 40
                addLane(40, 100, 1) = 0; route(7, 0) = -1
                enter(10) = 0; move(50) = 0; read(7) = 0; move(1) = 1
                enter(10) = 1; move(30) = 0; enter(10) = 2; move(20) = 0; read(7) = 1
                part(1, 9) = 0
                move(1) = 0; part(1, 9) = 5
                takeOff(2) = 21
                part(1, 9) = 5
                move(1) = 0; part(1, 9) = 6
                # a part enters too near
                enter(10) = 3
                part(1, 9) = 6
                move(1) = 0; part(1, 9) = 5
                emptyLane(0) = 1; move(1) = 0; part(1, 9) = 5
                """);
        Sentences.terms("and 6 otherwise.", NEAR + """
                addLane(40, 100, 1) = 0; route(7, 0) = -1
                enter(10) = 0; move(50) = 0; read(7) = 0; move(1) = 1
                part(0, 9) = 0
                enter(10) = 1; move(50) = 0; read(7) = 1
                part(1, 9) = 0
                move(1) = 0; part(1, 9) = 6
                """);
    }

    private static void end() {
        String quote = "Each part on the belt whose front is at least the end is lost: it leaves the belt.";
        Sentences.terms(quote, """
                set(4, 1000) = 2000
                enter(10) = 0; move(499) = 0; move(500) = 0
                part(0, 2) = 999; part(0, 1) = 0; total(2) = 1; total(4) = 0
                move(1) = 1
                part(0, 2) = 1000; part(0, 1) = 1; total(2) = 0; total(4) = 1
                takeOff(0) = ISE
                move(1) = 0; part(0, 2) = 1000
                """);
        Sentences.terms(quote, READ_PART.replace("enter", "set(4, 1000) = 2000; enter") + """
                # tried in the very millimeter in which its front comes to the end
                addLane(995, 1, 1) = 0; route(7, 0) = -1
                fateOf(0) = 10; nextLeaving() = 950
                move(500) = 0; move(450) = 1
                part(0, 1) = 10; part(0, 2) = 1000; lane(0, 3) = 1; total(4) = 0
                """);
        Sentences.terms(quote, READ_PART.replace("enter", "set(4, 1000) = 2000; enter") + """
                # the lane is one millimeter too far
                addLane(996, 200, 1) = 0; route(7, 0) = -1
                fateOf(0) = 4; nextLeaving() = 950
                move(500) = 0; move(450) = 1
                part(0, 1) = 4; lane(0, 3) = 0
                """);
    }

    private static void reasons() {
        String start = "set(4, 1000) = 2000; addLane(200, 10, 1) = 0; route(7, 0) = -1\n" + NEAR;
        String away = "move(500) = 0; move(450) = 1\n";
        Sentences.terms("The reason of a lost part is 1 if it has no code", start + """
                enter(10) = 0; move(50) = 0
                """ + away + "part(0, 1) = 1; lost(1) = 1; total(4) = 1");
        Sentences.terms("otherwise 2 if it is conflicting", start + """
                enter(10) = 0; move(50) = 0; read(7) = 0; read(8) = 0
                """ + away + "part(0, 1) = 2; lost(2) = 1; total(4) = 1");
        Sentences.terms("otherwise 3 if it is merged", start + """
                enter(46) = 0; move(50) = 0; read(7) = 0; enter(10) = 1; takeOff(1) = 0
                """ + away + "part(0, 1) = 3; lost(3) = 1; total(4) = 1");
        Sentences.terms("otherwise its failure if it has been tried", start + """
                # a gap is too small: failure 5
                enter(10) = 0; move(20) = 0; enter(10) = 1; move(30) = 0; read(7) = 0
                """ + away + "part(0, 1) = 5; lost(5) = 1; total(4) = 1; part(0, 9) = 5");
        Sentences.terms("otherwise its failure if it has been tried", start + """
                # the lane is full: failure 6
                enter(10) = 0; move(50) = 0; read(7) = 0; move(155) = 1
                enter(10) = 1; move(50) = 0; read(7) = 1
                """ + away + "part(1, 1) = 6; lost(6) = 1; total(4) = 1");
        Sentences.terms("otherwise 4.", start + """
                enter(10) = 0; move(50) = 0; read(6) = 0
                """ + away + "part(0, 1) = 4; part(0, 9) = 0; lost(4) = 1; total(4) = 1");
        Sentences.terms("otherwise 4.", start + """
                # it gets its lane too late, and is never tried
                enter(10) = 0; move(50) = 0; read(6) = 0
                move(164) = 0; route(6, 0) = -1
                fateOf(0) = 4
                """);
    }

    private static void orderOfReasons() {
        String quote = "1 if it has no code; otherwise 2 if it is conflicting; otherwise 3 if it is merged; "
                + "otherwise its failure if it has been tried; otherwise 4.";
        Sentences.terms(quote, """
                # no code, and merged
                enter(10) = 0; move(10) = 0; enter(10) = 1
                part(0, 5) = 1; fateOf(0) = 1; fateOf(1) = 1
                """);
        Sentences.terms(quote, NEAR + """
                # merged; conflicting and merged
                enter(46) = 0; move(50) = 0; read(7) = 0; enter(10) = 1
                fateOf(0) = 3
                read(8) = 0
                part(0, 4) = 1; part(0, 5) = 1; fateOf(0) = 2
                """);
        Sentences.terms(quote, NEAR + """
                # part 0 is merged before it gets a code: it has no lane and is not tried
                set(5, 100) = 5; addLane(40, 10, 1) = 0; route(7, 0) = -1
                enter(10) = 0; move(30) = 0; enter(10) = 1; takeOff(1) = 0
                move(20) = 0; read(7) = 0; part(0, 8) = -1
                move(1) = 0; part(0, 9) = 0; fateOf(0) = 3
                """);
        Sentences.terms(quote, """
                # conflicting after a failure
                set(0, 50) = 300; set(1, 200) = 20; set(3, 500) = 40
                addLane(40, 10, 1) = 0; route(7, 0) = -1
                enter(10) = 0; move(30) = 0; enter(10) = 1; move(20) = 0; read(7) = 0
                move(1) = 0; part(0, 9) = 5; fateOf(0) = 5
                read(8) = 0; part(0, 9) = 5; fateOf(0) = 2
                """);
        Sentences.terms(quote, """
                # merged after a failure, and then conflicting, too
                set(0, 50) = 300; set(1, 200) = 20; set(3, 500) = 40; set(5, 100) = 5
                addLane(40, 10, 1) = 0; addLane(40, 10, 1) = 1; route(7, 1) = -1
                enter(10) = 0; move(50) = 0; read(7) = 0; move(1) = 1
                emptyLane(0) = 0; route(7, 0) = 1; route(6, 1) = -1
                enter(10) = 1; move(50) = 0; read(6) = 1; move(1) = 0
                part(1, 9) = 6; fateOf(1) = 6
                enter(10) = 2; part(1, 5) = 1; part(1, 9) = 6; fateOf(1) = 3
                read(7) = 1; part(1, 9) = 6; fateOf(1) = 2
                """);
    }

    private static void fates() {
        Sentences.terms("The fate of a part is 0 while it is on the belt", READ_PART + """
                part(0, 1) = 0
                move(500) = 0; move(500) = 0; move(500) = 0; move(449) = 0
                part(0, 2) = 1999; part(0, 1) = 0
                move(1) = 1; part(0, 1) = 4
                """);
        StringBuilder lanes = new StringBuilder(NEAR);
        for (int i = 0; i < 6; i++) {
            lanes.append("addLane(46, 1, 1) = ").append(i).append("; route(").append(i).append(", ").append(i).append(") = -1\n");
        }
        for (int i = 0; i < 6; i++) {
            lanes.append("""
                    enter(10) = P; move(50) = 0; read(P) = P; part(P, 1) = 0; fateOf(P) = 1P
                    move(1) = 1; part(P, 1) = 1P; fateOf(P) = 1P; lane(P, 3) = 1; lane(P, 4) = 1
                    undo() = 5; part(P, 1) = 0; fateOf(P) = 1P; lane(P, 3) = 0; lane(P, 4) = 0
                    move(1) = 1; part(P, 1) = 1P; fateOf(P) = 1P
                    """.replace("P", "" + i));
        }
        Sentences.terms("10 + the lane if it was diverted", lanes + """
                total(3) = 6; total(4) = 0; total(5) = 0; share() = 1.0
                """);
        Sentences.terms("and its reason if it was lost.", """
                set(4, 1000) = 2000; enter(10) = 0; move(500) = 0
                part(0, 1) = 0; lost(1) = 0
                move(500) = 1
                part(0, 1) = 1; lost(1) = 1
                """);
    }
}
