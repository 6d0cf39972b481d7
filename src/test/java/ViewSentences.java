/** Promises 12 to 24: what there is, and what would be. */
final class ViewSentences {
    /** The scanner as near as can be, and no shadow. */
    private static final String NEAR = "set(0, 50) = 300; set(1, 0) = 20\n";
    /** Part 0 was diverted, part 1 was lost, part 2 was taken off, part 3 is on the belt. */
    private static final String FOUR_FATES = NEAR + """
            set(4, 1000) = 2000; addLane(46, 1, 1) = 0; route(7, 0) = -1
            enter(12) = 0; move(50) = 0; read(7) = 0; move(2) = 1
            enter(11) = 1; move(500) = 0; move(500) = 1
            enter(13) = 2; move(30) = 0; takeOff(2) = 30
            enter(14) = 3; move(20) = 0
            """;

    private ViewSentences() {
    }

    static void check() {
        part();
        partProperties();
        partReads();
        partLaneAndFailure();
        lane();
        laneProperties();
        total();
        totalsOfParts();
        totalsOfTheRest();
        lost();
        setting();
        routeAt();
        gapAhead();
        ranked();
        rankedOrder();
        share();
        fateOf();
        entryIn();
        entryInLater();
        nextLeaving();
        laneFor();
    }

    private static void part() {
        Sentences.promise(12, "Returns a property of a part.", FOUR_FATES + """
                part(0, 0) = 12; part(1, 0) = 11; part(2, 0) = 13; part(3, 0) = 14
                part(0, 1) = 10; part(1, 1) = 1; part(2, 1) = 9; part(3, 1) = 0
                part(0, 2) = 52; part(1, 2) = 1000; part(2, 2) = 30; part(3, 2) = 20
                part(0, 3) = 7; part(1, 3) = -1; part(2, 3) = -1; part(3, 3) = -1
                """);
        Sentences.promise(12, "`part`: number of a part", """
                part(0, 0) = IOOBE
                enter(10) = 0
                part(-1, 0) = IOOBE; part(0, 0) = 10; part(1, 0) = IOOBE
                """);
        Sentences.promise(12, "Throws `IndexOutOfBoundsException` if no part with this number has entered", FOUR_FATES + """
                part(4, 0) = IOOBE; part(299, 0) = IOOBE; part(300, 0) = IOOBE; part(-1, 0) = IOOBE
                part(2147483647, 0) = IOOBE; part(-2147483648, 9) = IOOBE
                undo() = 5; undo() = 4
                part(3, 0) = IOOBE; part(2, 0) = 13
                """);
        Sentences.promise(12, "Throws `IllegalArgumentException` if property is not 0 to 9", FOUR_FATES + """
                part(0, -1) = IAE; part(0, 10) = IAE; part(3, -1) = IAE; part(3, 10) = IAE
                part(3, 2147483647) = IAE; part(0, -2147483648) = IAE
                part(3, 0) = 14; part(3, 9) = 0
                """);
        Sentences.promise(12, "Returns the property.", "enter(10) = 0; part(0, 0) = 10; part(0, 9) = 0");
    }

    private static void partProperties() {
        Sentences.promise(12, "0: length", "enter(10) = 0; takeOff(0) = 0; enter(400) = 1; part(0, 0) = 10; part(1, 0) = 400");
        Sentences.promise(12, "1: fate", FOUR_FATES + "part(0, 1) = 10; part(1, 1) = 1; part(2, 1) = 9; part(3, 1) = 0");
        Sentences.promise(12, "2: front (where it left the belt if it is not on the belt any more)", FOUR_FATES + """
                move(70) = 0
                part(0, 2) = 52; part(1, 2) = 1000; part(2, 2) = 30; part(3, 2) = 90
                # it leaves in the middle of a move
                enter(10) = 4; move(500) = 0; move(500) = 2
                part(3, 2) = 1000; part(4, 2) = 1000
                """);
        Sentences.promise(12, "3: code, NONE without one", NEAR + """
                enter(100) = 0; move(50) = 0
                part(0, 3) = -1
                read(0) = 0; part(0, 3) = 0
                read(5) = 0; part(0, 3) = 0
                takeOff(0) = 50; part(0, 3) = 0
                enter(10) = 1; takeOff(1) = 0; part(1, 3) = -1
                """);
        Sentences.promise(12, "4: 1 if it is conflicting, 0 otherwise", NEAR + """
                enter(100) = 0; move(50) = 0
                part(0, 4) = 0
                read(5) = 0; part(0, 4) = 0
                read(5) = 0; part(0, 4) = 0
                read(6) = 0; part(0, 4) = 1
                read(5) = 0; part(0, 4) = 1
                takeOff(0) = 50; part(0, 4) = 1
                """);
        Sentences.promise(12, "5: 1 if it is merged, 0 otherwise", """
                enter(10) = 0; part(0, 5) = 0
                move(14) = 0; enter(10) = 1; part(0, 5) = 1; part(1, 5) = 1
                takeOff(0) = 14; part(0, 5) = 1; part(1, 5) = 1
                move(15) = 0; enter(10) = 2; part(1, 5) = 1; part(2, 5) = 0
                """);
    }

    private static void partReads() {
        String part = NEAR + "enter(400) = 0; move(50) = 0\n";
        Sentences.promise(12, "6: number of its repeats", part + """
                part(0, 6) = 0
                read(5) = 0; part(0, 6) = 0
                move(51) = 0; read(5) = 0; part(0, 6) = 1
                move(51) = 0; read(5) = 0; part(0, 6) = 2
                read(5) = 0; read(6) = 0; part(0, 6) = 2
                takeOff(0) = 152; part(0, 6) = 2
                """);
        Sentences.promise(12, "7: number of its doubles", part + """
                part(0, 7) = 0
                read(5) = 0; part(0, 7) = 0
                read(5) = 0; part(0, 7) = 1
                read(5) = 0; part(0, 7) = 2
                move(51) = 0; read(5) = 0; read(6) = 0; part(0, 7) = 2
                takeOff(0) = 101; part(0, 7) = 2
                """);
    }

    private static void partLaneAndFailure() {
        Sentences.promise(12, "8: its lane at present, NONE without one or if it is not on the belt", NEAR + """
                addLane(500, 1, 1) = 0; addLane(46, 1, 1) = 1; route(7, 0) = -1
                enter(10) = 0; move(50) = 0
                part(0, 8) = -1
                read(7) = 0; part(0, 8) = 0
                removeRoute(7) = 0; part(0, 8) = -1
                route(7, 1) = -1; part(0, 8) = 1
                move(1) = 1; part(0, 8) = -1; part(0, 1) = 11
                enter(10) = 1; move(50) = 0; read(7) = 1; part(1, 8) = 1
                takeOff(1) = 50; part(1, 8) = -1
                # the lane is told when its window has been missed, too
                enter(10) = 2; move(50) = 0; read(7) = 2; move(10) = 0; part(2, 8) = 1; part(2, 9) = 6
                """);
        Sentences.promise(12, "9: its failure, 0 if it has not been tried", NEAR + """
                addLane(46, 2, 1) = 0; route(7, 0) = -1
                enter(10) = 0; move(50) = 0; read(7) = 0; part(0, 9) = 0
                # diverted at the first try
                move(1) = 1; part(0, 9) = 0
                enter(10) = 1; move(50) = 0; read(7) = 1; part(1, 9) = 0
                move(1) = 0; part(1, 9) = 6
                move(100) = 0; part(1, 9) = 6
                takeOff(1) = 151; part(1, 9) = 6
                enter(10) = 2; move(15) = 0; enter(10) = 3; move(35) = 0; read(7) = 2
                move(1) = 0; part(2, 9) = 5; part(3, 9) = 0
                """);
    }

    private static void lane() {
        Sentences.promise(13, "Returns a property of a lane.", """
                addLane(60, 20, 3) = 0; addLane(61, 21, 4) = 1
                lane(0, 0) = 60; lane(0, 1) = 20; lane(0, 2) = 3; lane(1, 0) = 61; lane(1, 1) = 21; lane(1, 2) = 4
                """);
        Sentences.promise(13, "`lane`: number of a lane", """
                lane(0, 0) = IOOBE
                addLane(60, 20, 3) = 0
                lane(-1, 0) = IOOBE; lane(0, 0) = 60; lane(1, 0) = IOOBE
                """);
        Sentences.promise(13, "Throws `IndexOutOfBoundsException` if there is no such lane", """
                addLane(60, 20, 3) = 0; addLane(60, 20, 3) = 1; addLane(60, 20, 3) = 2
                addLane(60, 20, 3) = 3; addLane(60, 20, 3) = 4; addLane(60, 20, 3) = 5
                lane(5, 0) = 60; lane(6, 0) = IOOBE; lane(2147483647, 0) = IOOBE; lane(-2147483648, 5) = IOOBE
                lane(6, 5) = IOOBE; lane(-1, 5) = IOOBE
                undo() = 5
                lane(5, 0) = IOOBE; lane(5, 5) = IOOBE; lane(4, 0) = 60
                """);
        Sentences.promise(13, "Throws `IllegalArgumentException` if property is not 0 to 5", """
                addLane(60, 20, 3) = 0
                lane(0, -1) = IAE; lane(0, 6) = IAE; lane(0, 2147483647) = IAE; lane(0, -2147483648) = IAE
                lane(0, 0) = 60; lane(0, 5) = 0
                """);
        Sentences.promise(13, "Returns the property.", "addLane(60, 20, 3) = 0; lane(0, 0) = 60; lane(0, 5) = 0");
    }

    private static void laneProperties() {
        Sentences.promise(13, "0: position; 1: window; 2: capacity", "addLane(4999, 200, 50) = 0; addLane(1, 2, 3) = 1\n"
                + "lane(0, 0) = 4999; lane(0, 1) = 200; lane(0, 2) = 50; lane(1, 0) = 1; lane(1, 1) = 2; lane(1, 2) = 3");
        String two = NEAR + """
                addLane(46, 1, 2) = 0; addLane(46, 1, 1) = 1; route(7, 0) = -1
                enter(10) = 0; move(50) = 0; read(7) = 0; move(1) = 1
                lane(0, 3) = 1; lane(0, 4) = 1
                enter(10) = 1; move(50) = 0; read(7) = 1; move(1) = 1
                lane(0, 3) = 2; lane(0, 4) = 2; lane(1, 3) = 0; lane(1, 4) = 0
                """;
        Sentences.promise(13, "3: content", two + """
                emptyLane(0) = 2; lane(0, 3) = 0
                undo() = 5; lane(0, 3) = 2
                undo() = 4; lane(0, 3) = 1
                """);
        Sentences.promise(13, "4: number of parts that have been diverted into it so far", two + """
                # a part that finds the lane full does not count; those that were taken out do
                enter(10) = 2; move(50) = 0; read(7) = 2; move(1) = 0; lane(0, 4) = 2
                takeOff(2) = 51; emptyLane(0) = 2; lane(0, 4) = 2
                enter(10) = 3; move(50) = 0; read(7) = 3; move(1) = 1; lane(0, 4) = 3; lane(0, 3) = 1
                undo() = 5; lane(0, 4) = 2
                """);
        Sentences.promise(13, "5: number of routes that lead to it", """
                addLane(46, 1, 2) = 0; addLane(46, 1, 1) = 1
                lane(0, 5) = 0
                route(7, 0) = -1; lane(0, 5) = 1
                route(7, 0) = 0; lane(0, 5) = 1
                route(8, 0) = -1; route(9, 1) = -1; lane(0, 5) = 2; lane(1, 5) = 1
                route(8, 1) = 0; lane(0, 5) = 1; lane(1, 5) = 2
                removeRoute(7) = 0; lane(0, 5) = 0
                undo() = 5; lane(0, 5) = 1
                """);
    }

    private static void total() {
        Sentences.promise(14, "Returns a total.", "total(0) = 0; total(14) = 0; move(3) = 0; append(48) = 1; total(0) = 3; total(14) = 1");
        Sentences.promise(14, "Throws `IllegalArgumentException` if property is not 0 to 14", """
                total(-1) = IAE; total(15) = IAE; total(16) = IAE; total(2147483647) = IAE; total(-2147483648) = IAE
                """);
        Sentences.promise(14, "Returns the total.", "enter(10) = 0; total(1) = 1; total(2) = 1; total(13) = 1");
        Sentences.promise(14, "0: distance", "move(500) = 0; enter(10) = 0; move(1) = 0; total(0) = 501; undo() = 2; total(0) = 500");
    }

    private static void totalsOfParts() {
        Sentences.promise(14, "1: parts that have entered", FOUR_FATES + """
                total(1) = 4
                takeOff(3) = 20; total(1) = 4
                undo() = 5; undo() = 4; undo() = 3; total(1) = 3
                """);
        Sentences.promise(14, "2: parts on the belt", FOUR_FATES + """
                total(2) = 1
                enter(10) = 4; total(2) = 2
                takeOff(3) = 20; total(2) = 1; takeOff(4) = 0; total(2) = 0
                """);
        Sentences.promise(14, "3: diverted parts", FOUR_FATES + "total(3) = 1; emptyLane(0) = 1; total(3) = 1");
        Sentences.promise(14, "4: lost parts", FOUR_FATES + "total(4) = 1; move(500) = 0; move(480) = 1; total(4) = 2; undo() = 5; total(4) = 1");
        Sentences.promise(14, "5: parts that were taken off", FOUR_FATES + "total(5) = 1; takeOff(3) = 20; total(5) = 2; undo() = 5; total(5) = 1");
        // Of parts on the belt, and of those that have left in each way.
        String reads = NEAR + """
                set(4, 1000) = 2000; set(2, 10) = 50; addLane(150, 1, 1) = 0; route(7, 0) = -1
                enter(100) = 0; move(50) = 0; read(7) = 0; read(7) = 0; move(11) = 0; read(7) = 0
                move(139) = 1; part(0, 1) = 10
                enter(100) = 1; move(50) = 0; read(7) = 1; read(7) = 1; read(7) = 1; move(11) = 0; read(7) = 1; read(8) = 1
                takeOff(1) = 61
                enter(100) = 2; move(50) = 0; read(9) = 2; read(9) = 2; read(8) = 2
                move(11) = 0; read(9) = 2; move(11) = 0; read(9) = 2; move(28) = 0
                """;
        String later = "move(500) = 0; move(400) = 1; part(2, 1) = 2\n";
        Sentences.promise(14, "9: doubles of all parts", reads + "total(9) = 4\n" + later + "total(9) = 4");
        Sentences.promise(14, "10: repeats of all parts", reads + "total(10) = 4\n" + later + "total(10) = 4");
        Sentences.promise(14, "11: conflicting parts", reads + "total(11) = 2\n" + later + "total(11) = 2; undo() = 5; total(11) = 2");
        Sentences.promise(14, "12: merged parts", """
                total(12) = 0
                enter(10) = 0; move(10) = 0; total(12) = 0
                enter(10) = 1; move(10) = 0; total(12) = 2
                enter(10) = 2; total(12) = 3
                takeOff(1) = 10; total(12) = 3
                takeOff(2) = 0; takeOff(0) = 20; total(12) = 3
                enter(10) = 3; total(12) = 3
                """);
    }

    private static void totalsOfTheRest() {
        Sentences.promise(14, "6: lanes", "addLane(1, 1, 1) = 0; total(6) = 1; addLane(1, 1, 1) = 1; total(6) = 2; undo() = 1; total(6) = 1");
        Sentences.promise(14, "7: routes", "addLane(1, 1, 1) = 0; total(7) = 0; route(7, 0) = -1; total(7) = 1; route(7, 0) = 0; total(7) = 1\n"
                + "route(8, 0) = -1; total(7) = 2; removeRoute(7) = 0; total(7) = 1");
        Sentences.promise(14, "8: stray reads", NEAR + """
                read(7) = -1; total(8) = 1
                read(7) = -1; total(8) = 2
                enter(10) = 0; move(50) = 0; read(7) = 0; total(8) = 2
                takeOff(0) = 50; read(7) = -1; total(8) = 3
                undo() = 5; total(8) = 2
                """);
        Sentences.promise(14, "13: saved states", "total(13) = 0; move(1) = 0; total(13) = 1; undo() = 0; total(13) = 0\n"
                + "6 times move(1) = 0\ntotal(13) = 6; move(1) = 0; total(13) = 6");
        Sentences.promise(14, "14: length of the text", "append(63) = 1; total(14) = 1; append(63) = 2; total(14) = 2; clear() = 2; total(14) = 0\n"
                + "append(48) = 1; load() = 0; total(14) = 0");
    }

    private static void lost() {
        Sentences.promise(15, "Counts lost parts.", FOUR_FATES + "lost(1) = 1; lost(2) = 0; lost(3) = 0; lost(4) = 0; lost(5) = 0; lost(6) = 0");
        Sentences.promise(15, "`reason`: 1 to 6", "lost(0) = IAE; lost(1) = 0; lost(6) = 0; lost(7) = IAE");
        Sentences.promise(15, "Returns the number of parts that were lost with this reason.", NEAR + """
                set(4, 1000) = 2000; addLane(46, 1, 1) = 0; route(7, 0) = -1
                enter(10) = 0; move(50) = 0; read(7) = 0; move(1) = 1
                # 1: the lane is full; 2: conflicting; 3: no lane; 4 and 5: no code; 6: taken off
                enter(10) = 1; move(50) = 0; read(7) = 1
                enter(10) = 2; move(50) = 0; read(7) = 2; read(8) = 2
                enter(10) = 3; move(50) = 0; read(9) = 3
                enter(10) = 4; move(50) = 0; enter(10) = 5; move(50) = 0; enter(10) = 6; takeOff(6) = 0
                # 7: merged; 8: taken off; 9: part 10 is too near; 10: no code
                enter(46) = 7; move(50) = 0; read(7) = 7; enter(10) = 8; takeOff(8) = 0; move(45) = 0
                enter(10) = 9; move(15) = 0; enter(10) = 10; move(35) = 0; read(7) = 9; move(1) = 0
                lost(1) = 0; lost(2) = 0; lost(3) = 0; lost(4) = 0; lost(5) = 0; lost(6) = 0; total(4) = 0
                move(500) = 0; move(500) = 8
                lost(1) = 3; lost(2) = 1; lost(3) = 1; lost(4) = 1; lost(5) = 1; lost(6) = 1; total(4) = 8
                part(1, 1) = 6; part(2, 1) = 2; part(3, 1) = 4; part(5, 1) = 1; part(7, 1) = 3; part(9, 1) = 5
                """);
        Sentences.promise(15, "Throws `IllegalArgumentException` if reason is out of range", FOUR_FATES + """
                # 9 and 10 are fates, but not reasons
                lost(0) = IAE; lost(-1) = IAE; lost(7) = IAE; lost(9) = IAE; lost(10) = IAE
                lost(2147483647) = IAE; lost(-2147483648) = IAE
                """);
    }

    private static void setting() {
        Sentences.promise(16, "Returns the value of a setting.", """
                setting(0) = 300; setting(1) = 20; setting(2) = 50; setting(3) = 40; setting(4) = 2000; setting(5) = 5
                set(4, 3000) = 2000; setting(4) = 3000
                undo() = 0; setting(4) = 2000
                """);
        Sentences.promise(16, "`index`: 0 to 5", "setting(-1) = IOOBE; setting(0) = 300; setting(5) = 5; setting(6) = IOOBE");
        Sentences.promise(16, "Returns the value.", "enter(10) = 0; setting(0) = 300; setting(5) = 5");
        Sentences.promise(16, "Throws `IndexOutOfBoundsException` if index is out of range", """
                setting(6) = IOOBE; setting(-1) = IOOBE; setting(2147483647) = IOOBE; setting(-2147483648) = IOOBE
                """);
    }

    private static void routeAt() {
        String three = "addLane(1, 1, 1) = 0; addLane(1, 1, 1) = 1; route(500, 1) = -1; route(999, 0) = -1; route(0, 1) = -1\n";
        Sentences.promise(17, "Returns a route.", three + "routeAt(1) = 5001");
        Sentences.promise(17, "`index`: 0 for the route with the lowest code, 1 for the one with the next lowest code, and so on", three + """
                routeAt(0) = 1; routeAt(1) = 5001; routeAt(2) = 9990
                removeRoute(0) = 1
                routeAt(0) = 5001; routeAt(1) = 9990
                route(501, 0) = -1; route(499, 0) = -1
                routeAt(0) = 4990; routeAt(1) = 5001; routeAt(2) = 5010; routeAt(3) = 9990
                """);
        Sentences.promise(17, "Returns 10 * its code + its lane", """
                addLane(1, 1, 1) = 0; addLane(1, 1, 1) = 1; addLane(1, 1, 1) = 2
                addLane(1, 1, 1) = 3; addLane(1, 1, 1) = 4; addLane(1, 1, 1) = 5
                route(0, 0) = -1; route(999, 5) = -1
                routeAt(0) = 0; routeAt(1) = 9995
                """);
        Sentences.promise(17, "NONE if there are not so many routes.", "routeAt(0) = -1\n" + three + """
                routeAt(2) = 9990; routeAt(3) = -1; routeAt(30) = -1; routeAt(31) = -1; routeAt(2147483647) = -1
                undo() = 4; routeAt(2) = -1
                """);
        Sentences.promise(17, "Throws `IllegalArgumentException` if index is negative", "routeAt(-1) = IAE; routeAt(-2147483648) = IAE\n" + three
                + "routeAt(-1) = IAE; routeAt(-2147483648) = IAE; routeAt(0) = 1");
    }

    private static void gapAhead() {
        String three = "enter(10) = 0; move(10) = 0; enter(11) = 1; move(30) = 0; enter(12) = 2; move(5) = 0\n";
        Sentences.promise(18, "Returns the gap ahead of a part.", three + "gapAhead(2) = 19");
        Sentences.promise(18, "`part`: number of a part", three + "gapAhead(-1) = IOOBE; gapAhead(0) = -1; gapAhead(2) = 19; gapAhead(3) = IOOBE");
        Sentences.promise(18, "Returns the tail of the part ahead of it minus its front", three + """
                gapAhead(1) = 0; gapAhead(2) = 19
                move(400) = 0
                gapAhead(1) = 0; gapAhead(2) = 19
                takeOff(1) = 435
                gapAhead(2) = 30
                """);
        Sentences.promise(18, "NONE if there is no part ahead of it.", three + """
                gapAhead(0) = -1
                takeOff(0) = 45; gapAhead(1) = -1; gapAhead(2) = 19
                takeOff(1) = 35; gapAhead(2) = -1
                """);
        Sentences.promise(18, "Throws `IndexOutOfBoundsException` if no part with this number has entered", """
                gapAhead(0) = IOOBE
                enter(10) = 0
                gapAhead(1) = IOOBE; gapAhead(-1) = IOOBE; gapAhead(2147483647) = IOOBE; gapAhead(-2147483648) = IOOBE
                undo() = 0
                gapAhead(0) = IOOBE
                """);
        Sentences.promise(18, "Throws `IllegalStateException` if it is not on the belt", FOUR_FATES + """
                gapAhead(0) = ISE; gapAhead(1) = ISE; gapAhead(2) = ISE; gapAhead(3) = -1
                """);
    }

    /** Parts 0, 1 and 2, of 10 mm, with the codes 0, 1 and 2, and their middles at 125, 85 and 45; lanes at 300 and 46. */
    private static String three() {
        return NEAR + """
                set(3, 500) = 40; addLane(300, 1, 1) = 0; addLane(46, 1, 1) = 1
                enter(10) = 0; move(40) = 0
                enter(10) = 1; move(10) = 0; read(0) = 0; move(30) = 0
                enter(10) = 2; move(10) = 0; read(1) = 1; move(40) = 0; read(2) = 2
                part(0, 2) = 130; part(1, 2) = 90; part(2, 2) = 50
                """;
    }

    private static void ranked() {
        Sentences.promise(19, "`rank`: 0 or more", three() + "ranked(-1) = IAE; ranked(0) = 0; ranked(2) = 2; ranked(3) = -1");
        Sentences.promise(19, "Returns the number of the part with this rank", three() + """
                ranked(0) = 0; ranked(1) = 1; ranked(2) = 2
                takeOff(0) = 130; ranked(0) = 1; ranked(1) = 2; ranked(2) = -1
                """);
        Sentences.promise(19, "NONE if there are not so many parts on the belt.", """
                ranked(0) = -1; ranked(2147483647) = -1
                enter(10) = 0
                ranked(0) = 0; ranked(1) = -1; ranked(20) = -1; ranked(2147483647) = -1
                takeOff(0) = 0
                ranked(0) = -1
                """);
        StringBuilder twenty = new StringBuilder();
        for (int i = 0; i < 20; i++) {
            twenty.append("enter(10) = ").append(i).append("; move(10) = 0; ranked(").append(i).append(") = ").append(i).append("\n");
        }
        Sentences.promise(19, "NONE if there are not so many parts on the belt.", twenty + "ranked(0) = 0; ranked(19) = 19; ranked(20) = -1");
        Sentences.promise(19, "Throws `IllegalArgumentException` if rank is negative", """
                ranked(-1) = IAE; ranked(-2147483648) = IAE
                enter(10) = 0
                ranked(-1) = IAE; ranked(-2147483648) = IAE
                """);
    }

    private static void rankedOrder() {
        Sentences.promise(19, "Ranks the parts on the belt by the distance to their lanes", three() + """
                route(0, 0) = -1; route(1, 0) = -1; route(2, 0) = -1
                # 175, 215, 255
                ranked(0) = 0; ranked(1) = 1; ranked(2) = 2
                addLane(2, 1, 1) = 2; route(0, 2) = 0
                # -123
                ranked(0) = 0; ranked(1) = 1; ranked(2) = 2
                """);
        Sentences.promise(19, "the position of the lane minus the middle (this can be negative).", three() + """
                route(1, 1) = -1; route(2, 1) = -1; route(0, 0) = -1
                # -39, 1, 175
                ranked(0) = 1; ranked(1) = 2; ranked(2) = 0
                addLane(45, 1, 1) = 2; addLane(44, 1, 1) = 3; addLane(84, 1, 1) = 4
                route(1, 4) = 1; route(2, 2) = 1
                # -1, 0
                ranked(0) = 1; ranked(1) = 2
                route(2, 3) = 2
                # -1, -1
                ranked(0) = 1; ranked(1) = 2
                """);
        Sentences.promise(19, "Parts with a lane come first", three() + """
                # 255 alone
                route(2, 0) = -1
                ranked(0) = 2; ranked(1) = 0; ranked(2) = 1
                # conflicting
                read(3) = 2
                ranked(0) = 0; ranked(1) = 1; ranked(2) = 2
                """);
        Sentences.promise(19, "with smaller distances before greater ones", three() + """
                addLane(260, 1, 1) = 2; addLane(259, 1, 1) = 3
                route(0, 0) = -1; route(1, 2) = -1
                # 175, 175
                ranked(0) = 0; ranked(1) = 1
                route(1, 3) = 2
                # 175, 174
                ranked(0) = 1; ranked(1) = 0
                """);
        Sentences.promise(19, "then the parts without a lane", three() + """
                route(1, 0) = -1; ranked(0) = 1; ranked(1) = 0; ranked(2) = 2
                """);
        Sentences.promise(19, "otherwise the lower number comes first.", three() + """
                addLane(220, 1, 1) = 2; addLane(260, 1, 1) = 3
                route(0, 0) = -1; route(1, 3) = -1; route(2, 2) = -1
                # 175 each
                ranked(0) = 0; ranked(1) = 1; ranked(2) = 2
                removeRoute(0) = 0; removeRoute(1) = 3; removeRoute(2) = 2
                ranked(0) = 0; ranked(1) = 1; ranked(2) = 2
                """);
        Sentences.promise(19, "the position of the lane minus the middle", NEAR + """
                # the middle of an odd length: 500 - (50 - 5), 525 - (75 - 5)
                set(5, 0) = 5; addLane(500, 1, 1) = 0; addLane(525, 1, 1) = 1; route(7, 0) = -1; route(8, 1) = -1
                enter(11) = 0; move(25) = 0; enter(10) = 1; move(25) = 0; read(8) = 0; move(25) = 0; read(7) = 1
                ranked(0) = 0; ranked(1) = 1
                """);
    }

    private static void share() {
        Sentences.promise(20, "Returns the share of the parts that were diverted.", FOUR_FATES + "share() = 0.3333333333333333");
        Sentences.promise(20, "1.0 if none has left it.", """
                share() = 1.0
                enter(10) = 0; share() = 1.0
                takeOff(0) = 0; share() = 0.0
                undo() = 1; share() = 1.0
                """);
        Sentences.promise(20, "divided by the number of parts that have left the belt (diverted, lost or taken off)", FOUR_FATES + """
                # one of three; the part on the belt does not count
                share() = 0.3333333333333333
                takeOff(3) = 20; share() = 0.25
                emptyLane(0) = 1; share() = 0.25
                enter(10) = 4; move(50) = 0; read(7) = 4; move(1) = 1
                share() = 0.4
                """);
        Sentences.promise(20, "Returns the number of diverted parts, converted to double", NEAR + """
                addLane(46, 1, 9) = 0; route(7, 0) = -1
                enter(10) = 0; move(50) = 0; read(7) = 0; move(1) = 1; share() = 1.0
                enter(10) = 1; move(50) = 0; read(7) = 1; move(1) = 1; share() = 1.0
                enter(10) = 2; takeOff(2) = 0; share() = 0.6666666666666666
                """);
    }

    private static void fateOf() {
        Sentences.promise(21, "Tells the fate of a part.", FOUR_FATES + "fateOf(0) = 10; fateOf(1) = 1; fateOf(2) = 9; fateOf(3) = 1");
        Sentences.promise(21, "`part`: number of a part", "fateOf(0) = IOOBE; enter(10) = 0; fateOf(-1) = IOOBE; fateOf(0) = 1; fateOf(1) = IOOBE");
        Sentences.promise(21, "Returns its fate at the end of its way, when it has been diverted or lost.", NEAR + """
                # it depends on a part that leaves before it, and on one that does not
                set(4, 1000) = 2000; set(3, 30) = 40
                addLane(500, 10, 1) = 0; addLane(980, 40, 1) = 1; route(7, 0) = -1; route(8, 1) = -1
                enter(10) = 0; move(50) = 0; read(7) = 0; enter(10) = 1; move(35) = 0; enter(10) = 2; move(15) = 0; read(8) = 1
                fateOf(0) = 10; fateOf(1) = 5; fateOf(2) = 1
                takeOff(2) = 15
                fateOf(1) = 11
                route(8, 0) = 1
                # the lane takes one part, and that is part 0
                fateOf(0) = 10; fateOf(1) = 6
                takeOff(0) = 100
                fateOf(1) = 10
                part(1, 1) = 0; part(1, 2) = 50; lane(0, 3) = 0; total(0) = 100
                """);
        Sentences.promise(21, "Returns its fate at the end of its way", NEAR + """
                # in the last millimeter of its way: front 999
                set(4, 1000) = 2000; addLane(995, 1, 1) = 0; route(7, 0) = -1
                enter(10) = 0; move(50) = 0; read(7) = 0; move(500) = 0; move(449) = 0
                part(0, 2) = 999
                fateOf(0) = 10
                removeRoute(7) = 0; fateOf(0) = 4
                """);
        Sentences.promise(21, "Throws `IndexOutOfBoundsException` if no part with this number has entered", """
                fateOf(0) = IOOBE; fateOf(-1) = IOOBE; fateOf(2147483647) = IOOBE; fateOf(-2147483648) = IOOBE
                enter(10) = 0; takeOff(0) = 0
                fateOf(0) = 9; fateOf(1) = IOOBE
                undo() = 1; undo() = 0
                fateOf(0) = IOOBE
                """);
    }

    private static void entryIn() {
        Sentences.promise(22, "Tells when a part can enter without being merged.", """
                enter(10) = 0
                entryIn() = 15
                move(14) = 0; entryIn() = 1
                move(1) = 0; entryIn() = 0
                enter(10) = 1; part(0, 5) = 0; part(1, 5) = 0
                """);
        Sentences.promise(22, "Returns the smallest number of millimeters, 0 or more", """
                entryIn() = 0
                enter(400) = 0; entryIn() = 405
                move(404) = 0; entryIn() = 1
                move(1) = 0; entryIn() = 0
                move(1) = 0; entryIn() = 0
                move(500) = 0; entryIn() = 0
                enter(10) = 1; entryIn() = 15
                takeOff(1) = 0; entryIn() = 0
                """);
        int[] gaps = {0, 1, 100};
        for (int gap : gaps) {
            Sentences.promise(22, "after which a part can enter and would not be merged", "set(5, " + gap + ") = 5; enter(10) = 0\n"
                    + "entryIn() = " + (10 + gap) + "; move(" + (9 + gap) + ") = 0; entryIn() = 1; move(1) = 0; entryIn() = 0");
        }
        StringBuilder twenty = new StringBuilder();
        for (int i = 0; i < 20; i++) {
            twenty.append("enter(10) = ").append(i).append("; move(15) = 0\n");
        }
        Sentences.promise(22, "(the numbers of parts do not matter)", twenty + "enter(10) = ISE; entryIn() = 0");
        StringBuilder most = new StringBuilder();
        for (int i = 0; i < 299; i++) {
            most.append("enter(10) = ").append(i).append("; takeOff(").append(i).append(") = 0\n");
        }
        Sentences.promise(22, "(the numbers of parts do not matter)", most + """
                enter(10) = 299; entryIn() = 15; move(15) = 0; enter(10) = ISE; entryIn() = 0
                """);
    }

    private static void entryInLater() {
        Sentences.promise(22, "Returns the smallest number of millimeters", NEAR + """
                # the last part is diverted before its tail is far enough
                addLane(60, 200, 1) = 0; addLane(20, 100, 1) = 1; route(7, 0) = -1; route(8, 1) = -1
                enter(100) = 0; move(50) = 0
                entryIn() = 55
                read(7) = 0
                # the middle comes to 60 after 60 mm
                entryIn() = 55
                undo() = 5
                read(8) = 0
                entryIn() = 20
                move(19) = 0; entryIn() = 1
                undo() = 5
                move(20) = 1; part(0, 1) = 11; entryIn() = 0
                """);
        Sentences.promise(22, "Returns the smallest number of millimeters", NEAR + """
                # the last part is diverted, but then the part ahead of it is the last one, and its tail is far enough
                set(3, 0) = 40; set(5, 100) = 5
                addLane(20, 100, 1) = 0; route(8, 0) = -1
                enter(10) = 0; move(110) = 0; enter(100) = 1; move(50) = 0; read(8) = 1
                part(0, 5) = 0; part(1, 5) = 0
                entryIn() = 20
                takeOff(1) = 50; entryIn() = 0
                """);
    }

    private static void nextLeaving() {
        Sentences.promise(23, "Tells when the next part leaves the belt.", """
                enter(10) = 0; nextLeaving() = 2000
                move(500) = 0; nextLeaving() = 1500
                enter(10) = 1; nextLeaving() = 1500
                takeOff(0) = 500; nextLeaving() = 2000
                """);
        Sentences.promise(23, "Returns the number of millimeters after which the next part is diverted or lost", NEAR + """
                set(4, 1000) = 2000; addLane(100, 1, 1) = 0; route(7, 0) = -1
                enter(10) = 0; move(60) = 0; enter(10) = 1; move(50) = 0; read(7) = 1
                # part 1 leaves before part 0
                nextLeaving() = 55
                move(54) = 0; nextLeaving() = 1
                undo() = 5
                removeRoute(7) = 0; nextLeaving() = 890
                route(7, 0) = -1; move(55) = 1; part(1, 1) = 10
                nextLeaving() = 835
                move(500) = 0; move(334) = 0; nextLeaving() = 1
                move(1) = 1
                """);
        Sentences.promise(23, "Returns the number of millimeters after which the next part is diverted or lost", NEAR + """
                # in the window, where a gap is too small until the part ahead is lost
                set(3, 15) = 40; set(4, 1000) = 2000; addLane(900, 200, 9) = 0; route(7, 0) = -1
                enter(10) = 0; move(20) = 0; enter(10) = 1; move(50) = 0; read(7) = 1
                nextLeaving() = 930
                move(500) = 0; move(430) = 1
                part(0, 1) = 1; part(1, 9) = 5
                nextLeaving() = 1
                move(1) = 1; part(1, 1) = 10
                """);
        Sentences.promise(23, "NONE if there are no parts on the belt.", """
                nextLeaving() = -1
                enter(10) = 0; nextLeaving() = 2000
                takeOff(0) = 0; nextLeaving() = -1
                undo() = 1; nextLeaving() = 2000
                move(500) = 0; move(500) = 0; move(500) = 0; move(500) = 1
                nextLeaving() = -1
                """);
    }

    private static void laneFor() {
        Sentences.promise(24, "Tells the lane of a part with given properties, that would be neither conflicting nor merged.", """
                addLane(1, 1, 1) = 0; addLane(1, 1, 1) = 1; route(7, 0) = -1
                type ?l50;x1
                load() = 1
                laneFor(7, 49) = 0; laneFor(7, 50) = 0; laneFor(8, 49) = -1; laneFor(8, 50) = 1
                # a part at the entry, with which it would be merged, does not matter
                enter(10) = 0; laneFor(7, 49) = 0
                """);
        String lane = "addLane(1, 1, 1) = 0\ntype 0\nload() = 0\n";
        Sentences.promise(24, "`code`: 0 to 999", lane + "laneFor(-1, 10) = IAE; laneFor(0, 10) = 0; laneFor(999, 10) = 0; laneFor(1000, 10) = IAE");
        Sentences.promise(24, "`length`: 10 to 400", lane + "laneFor(0, 9) = IAE; laneFor(0, 10) = 0; laneFor(0, 400) = 0; laneFor(0, 401) = IAE");
        Sentences.promise(24, "Returns its lane; NONE without one.", """
                laneFor(7, 10) = -1
                addLane(1, 1, 1) = 0
                laneFor(7, 10) = -1
                route(7, 0) = -1; laneFor(7, 10) = 0; laneFor(8, 10) = -1
                type 1
                load() = 0; laneFor(8, 10) = -1; laneFor(7, 10) = 0
                addLane(1, 1, 1) = 1
                laneFor(8, 10) = 1; laneFor(7, 10) = 0
                """);
        Sentences.promise(24, "Throws `IllegalArgumentException` if an argument is out of range", lane + """
                laneFor(2147483647, 10) = IAE; laneFor(-2147483648, 10) = IAE; laneFor(1000, 401) = IAE
                laneFor(0, 2147483647) = IAE; laneFor(0, -2147483648) = IAE; laneFor(-1, 9) = IAE; laneFor(0, 0) = IAE
                """);
    }
}
