/** Promises 1 to 11: a new object, settings, lanes, routes, the belt. */
final class ChangeSentences {
    /** The scanner as near as can be, and no shadow. */
    private static final String NEAR = "set(0, 50) = 300; set(1, 0) = 20\n";

    private ChangeSentences() {
    }

    static void check() {
        newObject();
        set();
        addLane();
        emptyLane();
        route();
        routeExceptions();
        removeRoute();
        enter();
        enterExceptions();
        read();
        move();
        moveExceptions();
        takeOff();
        undo();
    }

    private static void newObject() {
        StringBuilder totals = new StringBuilder();
        for (int property = 0; property < 15; property++) {
            totals.append("total(").append(property).append(") = 0\n");
        }
        Sentences.promise(1, "Creates a sorter without lanes and parts.", totals + """
                lane(0, 0) = IOOBE; emptyLane(0) = IOOBE; route(0, 0) = IOOBE
                part(0, 0) = IOOBE; takeOff(0) = IOOBE; gapAhead(0) = IOOBE; fateOf(0) = IOOBE
                setting(0) = 300; setting(1) = 20; setting(2) = 50; setting(3) = 40; setting(4) = 2000; setting(5) = 5
                lost(1) = 0; lost(2) = 0; lost(3) = 0; lost(4) = 0; lost(5) = 0; lost(6) = 0
                routeAt(0) = -1; ranked(0) = -1; share() = 1.0; entryIn() = 0; nextLeaving() = -1
                laneFor(0, 10) = -1; laneFor(999, 400) = -1; errorPosition() = 0; clear() = 0; undo() = ISE
                """);
    }

    private static void set() {
        Sentences.promise(2, "Changes a setting.", """
                set(3, 41) = 40
                setting(0) = 300; setting(1) = 20; setting(2) = 50; setting(3) = 41; setting(4) = 2000; setting(5) = 5
                set(3, 41) = 41; setting(3) = 41
                """);
        Sentences.promise(2, "`index`: 0 to 5", """
                set(-1, 100) = IOOBE
                set(0, 100) = 300; set(5, 100) = 5
                set(6, 100) = IOOBE
                """);
        Sentences.promise(2, "`value`: the new value, in its range", """
                set(0, 49) = IAE; set(0, 1001) = IAE; set(1, -1) = IAE; set(1, 201) = IAE; set(2, -1) = IAE; set(2, 501) = IAE
                set(3, -1) = IAE; set(3, 501) = IAE; set(4, 999) = IAE; set(4, 5001) = IAE; set(5, -1) = IAE; set(5, 101) = IAE
                set(0, 50) = 300; set(1, 0) = 20; set(2, 0) = 50; set(3, 0) = 40; set(4, 1000) = 2000; set(5, 0) = 5
                set(0, 1000) = 50; set(1, 200) = 0; set(2, 500) = 0; set(3, 500) = 0; set(4, 5000) = 1000; set(5, 100) = 0
                """);
        Sentences.promise(2, "Returns the previous value.", """
                set(2, 0) = 50; set(2, 500) = 0; set(2, 500) = 500; set(2, 7) = 500
                undo() = 3; set(2, 8) = 500
                """);
        Sentences.promise(2, "Throws `IndexOutOfBoundsException` if index is out of range", """
                set(6, 100) = IOOBE; set(7, 100) = IOOBE; set(-1, 100) = IOOBE
                set(2147483647, 100) = IOOBE; set(-2147483648, 100) = IOOBE
                total(13) = 0
                """);
        Sentences.promise(2, "Throws `IllegalArgumentException` if value is out of range", """
                set(0, 2147483647) = IAE; set(0, -2147483648) = IAE; set(4, 2147483647) = IAE; set(5, -2147483648) = IAE
                total(13) = 0
                """);
        Sentences.promise(2, "Throws `IllegalStateException` if there are parts on the belt", """
                set(4, 1000) = 2000
                enter(10) = 0
                set(0, 300) = ISE; set(5, 5) = ISE
                move(500) = 0; move(499) = 0
                set(0, 300) = ISE
                move(1) = 1
                # the belt is empty again
                set(0, 301) = 300
                enter(10) = 1
                set(0, 300) = ISE
                takeOff(1) = 0
                set(0, 302) = 301
                """);
        Sentences.undoable(2, "set(2, 3) = 50", "set(2, 4) = 3");
        Sentences.undoable(2, "set(2, 3) = 50; set(0, 51) = 300", "set(0, 1000) = 51");
        Sentences.undoable(2, "7 times set(1, 20) = 20", "set(1, 21) = 20");
    }

    private static void addLane() {
        Sentences.promise(3, "Adds a lane, which is empty.", """
                addLane(70, 8, 9) = 0
                lane(0, 0) = 70; lane(0, 1) = 8; lane(0, 2) = 9; lane(0, 3) = 0; lane(0, 4) = 0; lane(0, 5) = 0
                emptyLane(0) = 0
                """);
        Sentences.promise(3, "Adds a lane, which is empty.", NEAR + """
                # there was another lane with this number, with a part in it, before six undos
                addLane(46, 1, 1) = 0; route(7, 0) = -1; enter(10) = 0; move(50) = 0; read(7) = 0; move(1) = 1
                lane(0, 3) = 1; lane(0, 4) = 1; lane(0, 5) = 1
                undo() = 5; undo() = 4; undo() = 3; undo() = 2; undo() = 1; undo() = 0
                undo() = ISE
                lane(0, 0) = IOOBE
                addLane(47, 2, 3) = 0
                lane(0, 0) = 47; lane(0, 1) = 2; lane(0, 2) = 3; lane(0, 3) = 0; lane(0, 4) = 0; lane(0, 5) = 0
                """);
        Sentences.promise(3, "`position`: 1 to 4999", """
                addLane(0, 1, 1) = IAE; addLane(5000, 1, 1) = IAE
                addLane(1, 1, 1) = 0; addLane(4999, 1, 1) = 1
                lane(0, 0) = 1; lane(1, 0) = 4999
                """);
        Sentences.promise(3, "`window`: 1 to 200", """
                addLane(1, 0, 1) = IAE; addLane(1, 201, 1) = IAE
                addLane(1, 1, 1) = 0; addLane(1, 200, 1) = 1
                lane(0, 1) = 1; lane(1, 1) = 200
                """);
        Sentences.promise(3, "`capacity`: 1 to 50", """
                addLane(1, 1, 0) = IAE; addLane(1, 1, 51) = IAE
                addLane(1, 1, 1) = 0; addLane(1, 1, 50) = 1
                lane(0, 2) = 1; lane(1, 2) = 50
                """);
        Sentences.promise(3, "Returns the number of the lane.", """
                addLane(1, 1, 1) = 0; addLane(1, 1, 1) = 1; undo() = 1; addLane(1, 1, 1) = 1; addLane(1, 1, 1) = 2
                addLane(1, 1, 1) = 3; addLane(1, 1, 1) = 4; addLane(1, 1, 1) = 5
                """);
        Sentences.promise(3, "Throws `IllegalArgumentException` if an argument is out of range", """
                addLane(-1, 1, 1) = IAE; addLane(1, -1, 1) = IAE; addLane(1, 1, -1) = IAE
                addLane(2147483647, 1, 1) = IAE; addLane(1, 2147483647, 1) = IAE; addLane(1, 1, 2147483647) = IAE
                addLane(-2147483648, 1, 1) = IAE; addLane(1, -2147483648, 1) = IAE; addLane(1, 1, -2147483648) = IAE
                total(6) = 0; total(13) = 0
                """);
        Sentences.promise(3, "Throws `IllegalStateException` if there are 6 lanes", """
                addLane(1, 1, 1) = 0; addLane(1, 1, 1) = 1; addLane(1, 1, 1) = 2
                addLane(1, 1, 1) = 3; addLane(1, 1, 1) = 4; addLane(1, 1, 1) = 5
                addLane(1, 1, 1) = ISE; addLane(4999, 200, 50) = ISE
                total(6) = 6
                undo() = 5
                addLane(1, 1, 1) = 5
                addLane(1, 1, 1) = ISE
                """);
        Sentences.undoable(3, "type 0\nload() = 0", "addLane(5, 6, 7) = 0");
        Sentences.undoable(3, "addLane(1, 1, 1) = 0", "addLane(5, 6, 7) = 1");
    }

    private static void emptyLane() {
        String full = NEAR + """
                addLane(46, 1, 2) = 0; addLane(90, 1, 1) = 1; route(7, 0) = -1; route(8, 1) = -1
                enter(10) = 0; move(50) = 0; read(7) = 0; move(1) = 1
                enter(10) = 1; move(50) = 0; read(7) = 1; move(1) = 1
                enter(10) = 2; move(50) = 0; read(8) = 2; move(45) = 1
                """;
        Sentences.promise(4, "Empties a lane.", full + """
                lane(0, 3) = 2; lane(1, 3) = 1
                emptyLane(0) = 2
                lane(0, 3) = 0; lane(0, 4) = 2; lane(1, 3) = 1
                part(0, 1) = 10; total(3) = 3
                enter(10) = 3; move(50) = 0; read(7) = 3; move(1) = 1
                lane(0, 3) = 1; lane(0, 4) = 3
                """);
        Sentences.promise(4, "`lane`: number of a lane", """
                emptyLane(0) = IOOBE
                addLane(1, 1, 1) = 0
                emptyLane(-1) = IOOBE; emptyLane(0) = 0; emptyLane(1) = IOOBE
                """);
        Sentences.promise(4, "Returns the content that it had.", full + """
                emptyLane(1) = 1; emptyLane(1) = 0; emptyLane(0) = 2; emptyLane(0) = 0
                undo() = 5; undo() = 4; emptyLane(0) = 2
                """);
        Sentences.promise(4, "Throws `IndexOutOfBoundsException` if there is no such lane", """
                addLane(1, 1, 1) = 0; addLane(1, 1, 1) = 1; addLane(1, 1, 1) = 2
                addLane(1, 1, 1) = 3; addLane(1, 1, 1) = 4; addLane(1, 1, 1) = 5
                emptyLane(5) = 0; emptyLane(6) = IOOBE; emptyLane(-1) = IOOBE
                emptyLane(2147483647) = IOOBE; emptyLane(-2147483648) = IOOBE
                undo() = 5; undo() = 4
                emptyLane(5) = IOOBE; emptyLane(4) = 0
                """);
        Sentences.undoable(4, full, "emptyLane(0) = 2");
        Sentences.undoable(4, "addLane(1, 1, 1) = 0", "emptyLane(0) = 0");
    }

    private static void route() {
        String two = "addLane(1, 1, 1) = 0; addLane(1, 1, 1) = 1\n";
        Sentences.promise(5, "Adds a route, or changes the one of this code.", two + """
                route(7, 1) = -1
                total(7) = 1; laneFor(7, 10) = 1; routeAt(0) = 71
                route(7, 0) = 1
                total(7) = 1; laneFor(7, 10) = 0; routeAt(0) = 70; routeAt(1) = -1
                route(7, 0) = 0
                total(7) = 1; laneFor(7, 10) = 0; laneFor(6, 10) = -1; laneFor(8, 10) = -1
                """);
        Sentences.promise(5, "`code`: 0 to 999", two + """
                route(-1, 0) = IAE; route(1000, 0) = IAE
                route(0, 1) = -1; route(999, 0) = -1
                laneFor(0, 10) = 1; laneFor(999, 10) = 0
                """);
        Sentences.promise(5, "`lane`: number of a lane", """
                route(7, 0) = IOOBE
                addLane(1, 1, 1) = 0
                route(7, 0) = -1; route(7, 1) = IOOBE; route(7, -1) = IOOBE
                addLane(1, 1, 1) = 1
                route(7, 1) = 0; route(7, 2) = IOOBE
                """);
        Sentences.promise(5, "Returns the lane of the previous route of this code; NONE if there was none.", two + """
                route(7, 1) = -1; route(7, 1) = 1; route(7, 0) = 1; route(7, 0) = 0; route(8, 0) = -1
                removeRoute(7) = 0
                route(7, 1) = -1
                undo() = 5; undo() = 4
                route(7, 1) = 0
                """);
        Sentences.undoable(5, two, "route(7, 1) = -1");
        Sentences.undoable(5, two + "route(7, 1) = -1; route(9, 1) = -1", "route(7, 0) = 1");
        Sentences.undoable(5, two + "route(7, 1) = -1; route(9, 1) = -1", "route(8, 0) = -1");
    }

    private static void routeExceptions() {
        Sentences.promise(5, "Throws `IllegalArgumentException` if code is out of range", """
                addLane(1, 1, 1) = 0
                route(1000, 0) = IAE; route(-1, 0) = IAE; route(2147483647, 0) = IAE; route(-2147483648, 0) = IAE
                total(7) = 0; total(13) = 1
                """);
        Sentences.promise(5, "Throws `IndexOutOfBoundsException` if there is no such lane", """
                route(0, 0) = IOOBE; route(999, 5) = IOOBE
                addLane(1, 1, 1) = 0
                route(7, 2147483647) = IOOBE; route(7, -2147483648) = IOOBE; route(7, 6) = IOOBE
                total(7) = 0; total(13) = 1
                """);
        StringBuilder routes = new StringBuilder("addLane(1, 1, 1) = 0; addLane(1, 1, 1) = 1\n");
        for (int code = 0; code < 29; code++) {
            routes.append("route(").append(10 * code).append(", 0) = -1\n");
        }
        String quote = "Throws `IllegalStateException` if there is no route of this code, and there are 30 routes";
        Sentences.promise(5, quote, routes + """
                total(7) = 29
                route(999, 0) = -1; total(7) = 30
                route(998, 0) = ISE; route(5, 0) = ISE; route(1, 1) = ISE
                # those that are there can be changed
                route(0, 1) = 0; route(280, 1) = 0; route(999, 1) = 0; total(7) = 30
                routeAt(0) = 1; routeAt(28) = 2801; routeAt(29) = 9991; routeAt(30) = -1
                removeRoute(10) = 0; total(7) = 29
                route(10, 1) = -1; total(7) = 30
                removeRoute(0) = 1
                route(998, 0) = -1; route(0, 0) = ISE
                routeAt(28) = 9980; routeAt(29) = 9991
                move(1) = 0; undo() = 5
                routeAt(28) = 9980; routeAt(29) = 9991; total(7) = 30
                removeRoute(999) = 1; route(997, 0) = -1; undo() = 5; undo() = 4
                routeAt(28) = 9980; routeAt(29) = 9991; laneFor(999, 10) = 1; laneFor(997, 10) = -1
                route(999, 0) = 1; undo() = 4
                routeAt(29) = 9991; laneFor(999, 10) = 1
                """);
    }

    private static void removeRoute() {
        String three = "addLane(1, 1, 1) = 0; addLane(1, 1, 1) = 1; route(8, 0) = -1; route(6, 1) = -1; route(7, 1) = -1\n";
        Sentences.promise(6, "Removes a route.", three + """
                removeRoute(7) = 1
                total(7) = 2; laneFor(7, 10) = -1; laneFor(6, 10) = 1; laneFor(8, 10) = 0
                routeAt(0) = 61; routeAt(1) = 80; routeAt(2) = -1
                removeRoute(8) = 0
                removeRoute(6) = 1
                total(7) = 0; routeAt(0) = -1
                """);
        Sentences.promise(6, "`code`: 0 to 999", """
                addLane(1, 1, 1) = 0; route(0, 0) = -1; route(999, 0) = -1
                removeRoute(-1) = IAE; removeRoute(1000) = IAE
                removeRoute(0) = 0; removeRoute(999) = 0
                """);
        Sentences.promise(6, "Returns the lane of the route.", three + """
                removeRoute(6) = 1; removeRoute(8) = 0
                undo() = 5
                route(8, 1) = 0; removeRoute(8) = 1
                """);
        Sentences.promise(6, "Throws `IllegalArgumentException` if code is out of range", """
                removeRoute(-1) = IAE; removeRoute(1000) = IAE; removeRoute(2147483647) = IAE; removeRoute(-2147483648) = IAE
                total(13) = 0
                """);
        Sentences.promise(6, "Throws `IllegalStateException` if there is no route of this code", three + """
                removeRoute(0) = ISE; removeRoute(5) = ISE; removeRoute(9) = ISE; removeRoute(999) = ISE
                removeRoute(7) = 1
                removeRoute(7) = ISE
                undo() = 5
                removeRoute(7) = 1
                total(7) = 2
                """);
        Sentences.undoable(6, three, "removeRoute(7) = 1");
        Sentences.undoable(6, "addLane(1, 1, 1) = 0; route(0, 0) = -1", "removeRoute(0) = 0");
    }

    private static void enter() {
        Sentences.promise(7, "Lets a part enter.", """
                enter(33) = 0
                total(1) = 1; total(2) = 1
                part(0, 0) = 33; part(0, 1) = 0; part(0, 2) = 0; part(0, 3) = -1; part(0, 4) = 0
                part(0, 5) = 0; part(0, 6) = 0; part(0, 7) = 0; part(0, 8) = -1; part(0, 9) = 0
                """);
        Sentences.promise(7, "Lets a part enter.", NEAR + """
                # nothing of the parts before it sticks to it: code, conflict, merging, repeats, doubles, failure
                addLane(1, 200, 1) = 0; route(7, 0) = -1
                enter(10) = 0; move(20) = 0; enter(100) = 1; move(50) = 0; read(7) = 1; read(7) = 1
                move(51) = 0; read(7) = 1; enter(10) = 2; read(8) = 1
                part(1, 3) = 7; part(1, 4) = 1; part(1, 5) = 1; part(1, 6) = 1; part(1, 7) = 1; part(1, 9) = 5
                takeOff(0) = 121; takeOff(1) = 101; takeOff(2) = 0
                """ + fresh(3) + "move(60) = 0\n" + fresh(4) + "move(60) = 0\n" + fresh(5));
        Sentences.promise(7, "`length`: 10 to 400", """
                enter(9) = IAE
                enter(10) = 0; part(0, 0) = 10
                takeOff(0) = 0
                enter(401) = IAE
                enter(400) = 1; part(1, 0) = 400
                """);
        Sentences.promise(7, "Returns the number of the part.", """
                enter(10) = 0; move(10) = 0; enter(10) = 1; takeOff(0) = 10; takeOff(1) = 0
                enter(10) = 2
                undo() = 5; undo() = 4; undo() = 3
                move(10) = 0
                enter(10) = 2
                """);
        Sentences.undoable(7, "", "enter(10) = 0");
        Sentences.undoable(7, "enter(10) = 0; move(14) = 0", "enter(400) = 1");
        Sentences.undoable(7, NEAR + "enter(10) = 0; move(50) = 0; read(7) = 0; read(7) = 0; read(8) = 0; takeOff(0) = 50",
                "enter(20) = 1");
    }

    private static String fresh(int part) {
        return """
                enter(20) = P
                part(P, 1) = 0; part(P, 2) = 0; part(P, 3) = -1; part(P, 4) = 0; part(P, 5) = 0
                part(P, 6) = 0; part(P, 7) = 0; part(P, 8) = -1; part(P, 9) = 0
                """.replace("P", "" + part);
    }

    private static void enterExceptions() {
        Sentences.promise(7, "Throws `IllegalArgumentException` if length is out of range", """
                enter(9) = IAE; enter(0) = IAE; enter(-10) = IAE; enter(401) = IAE
                enter(2147483647) = IAE; enter(-2147483648) = IAE
                total(1) = 0; total(13) = 0
                """);
        Sentences.promise(7, "Throws `IllegalStateException` if no part can enter", """
                enter(10) = 0
                enter(10) = ISE; enter(400) = ISE
                move(9) = 0
                enter(10) = ISE
                move(1) = 0
                enter(10) = 1
                enter(10) = ISE
                total(1) = 2
                """);
        StringBuilder twenty = new StringBuilder("set(4, 1000) = 2000\n");
        for (int i = 0; i < 20; i++) {
            twenty.append("enter(10) = ").append(i).append("; move(40) = 0\n");
        }
        Sentences.promise(7, "20 parts are on the belt", twenty + """
                enter(10) = ISE; total(2) = 20
                move(199) = 0
                part(0, 2) = 999
                enter(10) = ISE
                nextLeaving() = 1
                move(1) = 1
                # part 0 has left
                part(0, 1) = 1; part(0, 2) = 1000; lost(1) = 1
                enter(10) = 20; total(2) = 20
                move(39) = 0; enter(10) = ISE
                """);
        StringBuilder most = new StringBuilder();
        for (int i = 0; i < 300; i++) {
            most.append("enter(10) = ").append(i).append("; takeOff(").append(i).append(") = 0\n");
        }
        Sentences.promise(7, "or 300 parts have entered", most + """
                enter(10) = ISE; enter(400) = ISE; total(1) = 300
                """);
    }

    private static void read() {
        Sentences.promise(8, "Reads a code.", NEAR + """
                enter(10) = 0; move(50) = 0
                read(42) = 0
                part(0, 3) = 42; part(0, 4) = 0; part(0, 6) = 0; part(0, 7) = 0; total(8) = 0
                """);
        Sentences.promise(8, "`code`: 0 to 999", NEAR + """
                enter(10) = 0; move(50) = 0
                read(-1) = IAE; read(1000) = IAE; part(0, 3) = -1
                read(0) = 0; part(0, 3) = 0
                undo() = 4
                read(999) = 0; part(0, 3) = 999
                """);
        Sentences.promise(8, "Returns the number of the part to which the code belongs; NONE if it is stray.", NEAR + """
                read(7) = -1
                enter(10) = 0; read(7) = -1
                move(50) = 0; enter(10) = 1; read(7) = 0
                move(50) = 0; read(7) = 1
                takeOff(1) = 50; read(7) = -1
                total(8) = 3
                """);
        Sentences.promise(8, "Throws `IllegalArgumentException` if code is out of range", """
                read(-1) = IAE; read(1000) = IAE; read(2147483647) = IAE; read(-2147483648) = IAE
                total(8) = 0; total(13) = 0
                """);
        String part = NEAR + "enter(100) = 0; move(50) = 0\n";
        Sentences.undoable(8, "", "read(7) = -1");
        Sentences.undoable(8, part, "read(7) = 0");
        Sentences.undoable(8, part + "read(7) = 0", "read(7) = 0");
        Sentences.undoable(8, part + "read(7) = 0", "read(8) = 0");
        Sentences.undoable(8, part + "read(7) = 0; move(51) = 0", "read(7) = 0");
        Sentences.promise(8, "Undoable.", part + """
                # the place of the latest read is taken back, too
                read(7) = 0; move(51) = 0; read(7) = 0; part(0, 6) = 1
                undo() = 5
                read(7) = 0; part(0, 6) = 1; part(0, 7) = 0
                undo() = 5
                read(8) = 0; undo() = 5
                read(7) = 0; part(0, 6) = 1; part(0, 7) = 0
                """);
    }

    private static void move() {
        Sentences.promise(9, "Moves the belt.", """
                enter(10) = 0
                move(30) = 0
                part(0, 2) = 30; total(0) = 30
                move(12) = 0
                part(0, 2) = 42; total(0) = 42
                """);
        Sentences.promise(9, "`millimeters`: 1 to 500", """
                move(0) = IAE
                move(1) = 0; total(0) = 1
                move(501) = IAE
                move(500) = 0; total(0) = 501
                """);
        Sentences.promise(9, "Returns the number of parts that leave the belt.", NEAR + """
                move(1) = 0
                addLane(100, 1, 1) = 0; addLane(200, 1, 1) = 1; route(7, 0) = -1; route(8, 1) = -1
                enter(10) = 0; move(50) = 0; read(8) = 0; enter(10) = 1; move(50) = 0; read(7) = 1
                move(54) = 0
                # part 1 at 104, part 0 at 154
                move(1) = 1; part(1, 1) = 10
                move(49) = 0
                move(1) = 1; part(0, 1) = 11
                undo() = 5; undo() = 4; undo() = 3
                move(101) = 2; part(0, 1) = 11; part(1, 1) = 10
                """);
        Sentences.promise(9, "Returns the number of parts that leave the belt.", """
                # one is taken off by hand before, two are lost, one stays
                set(4, 1000) = 2000
                enter(10) = 0; move(100) = 0; enter(10) = 1; move(100) = 0; enter(10) = 2; move(100) = 0; enter(10) = 3
                takeOff(1) = 200
                move(500) = 0
                move(400) = 2
                total(2) = 1; total(4) = 2
                """);
        Sentences.undoable(9, "", "move(1) = 0");
        Sentences.undoable(9, NEAR + "addLane(100, 1, 1) = 0; route(7, 0) = -1; enter(10) = 0; move(50) = 0; read(7) = 0; enter(40) = 1",
                "move(55) = 1");
        Sentences.undoable(9, NEAR + "set(4, 1000) = 2000; enter(10) = 0; move(500) = 0; enter(40) = 1; move(499) = 0", "move(1) = 1");
        Sentences.undoable(9, NEAR + "addLane(46, 1, 1) = 0; route(7, 0) = -1; enter(10) = 0; move(15) = 0; enter(10) = 1; "
                + "move(35) = 0; read(7) = 0", "move(1) = 0; part(0, 9) = 5");
    }

    private static void moveExceptions() {
        Sentences.promise(9, "Throws `IllegalArgumentException` if millimeters is out of range", """
                enter(10) = 0
                move(0) = IAE; move(-1) = IAE; move(501) = IAE; move(2147483647) = IAE; move(-2147483648) = IAE
                part(0, 2) = 0; total(0) = 0; total(13) = 1
                """);
        Sentences.promise(9, "Throws `IllegalStateException` if the distance would become greater than 50000", """
                99 times move(500) = 0
                enter(10) = 0
                move(300) = 0
                total(0) = 49800
                move(201) = ISE; move(500) = ISE; part(0, 2) = 300; total(0) = 49800
                move(200) = 0; total(0) = 50000; part(0, 2) = 500
                move(1) = ISE; move(500) = ISE
                undo() = 5
                move(199) = 0; total(0) = 49999
                move(2) = ISE
                move(1) = 0; total(0) = 50000
                """);
    }

    private static void takeOff() {
        String two = "enter(10) = 0; move(30) = 0; enter(10) = 1; move(12) = 0\n";
        Sentences.promise(10, "Takes a part off the belt by hand.", two + """
                takeOff(0) = 42
                total(2) = 1; total(5) = 1; total(4) = 0; total(3) = 0; gapAhead(1) = -1
                move(500) = 0
                part(0, 2) = 42; part(1, 2) = 512
                takeOff(1) = 512
                total(2) = 0; total(5) = 2; nextLeaving() = -1
                """);
        Sentences.promise(10, "Its fate becomes 9.", two + """
                takeOff(0) = 42
                part(0, 1) = 9; fateOf(0) = 9; part(1, 1) = 0
                """);
        Sentences.promise(10, "`part`: number of a part", two + """
                takeOff(-1) = IOOBE; takeOff(2) = IOOBE
                takeOff(1) = 12; takeOff(0) = 42
                """);
        Sentences.promise(10, "Returns its front.", """
                enter(10) = 0
                takeOff(0) = 0
                enter(10) = 1; move(500) = 0; move(500) = 0; move(500) = 0; move(499) = 0
                takeOff(1) = 1999
                """);
        Sentences.promise(10, "Throws `IndexOutOfBoundsException` if no part with this number has entered", """
                takeOff(0) = IOOBE
                enter(10) = 0
                takeOff(1) = IOOBE; takeOff(-1) = IOOBE; takeOff(300) = IOOBE
                takeOff(2147483647) = IOOBE; takeOff(-2147483648) = IOOBE
                undo() = 0
                # it has not entered any more
                takeOff(0) = IOOBE
                """);
        Sentences.promise(10, "Throws `IllegalStateException` if it is not on the belt", NEAR + """
                set(4, 1000) = 2000; addLane(46, 1, 1) = 0; route(7, 0) = -1
                enter(10) = 0; move(50) = 0; read(7) = 0; move(1) = 1
                # diverted
                takeOff(0) = ISE; part(0, 1) = 10
                enter(10) = 1; move(500) = 0; move(500) = 1
                # lost
                takeOff(1) = ISE; part(1, 1) = 1
                enter(10) = 2; takeOff(2) = 0
                # taken off
                takeOff(2) = ISE; total(5) = 1
                undo() = 5
                takeOff(2) = 0
                """);
        Sentences.undoable(10, two, "takeOff(0) = 42");
        Sentences.undoable(10, two, "takeOff(1) = 12");
        Sentences.undoable(10, NEAR + "enter(400) = 0; move(50) = 0; read(7) = 0; read(7) = 0; read(8) = 0", "takeOff(0) = 50");
    }

    private static void undo() {
        Sentences.promise(11, "Restores the state that was saved last, and removes it from the saved states.", """
                move(1) = 0; move(2) = 0; set(0, 50) = 300
                undo() = 2; setting(0) = 300; total(0) = 3
                undo() = 1; total(0) = 1
                undo() = 0; total(0) = 0
                undo() = ISE
                """);
        Sentences.promise(11, "Restores the state that was saved last", NEAR + """
                # a part that had left is on the belt again, and leaves in another way
                set(4, 1000) = 2000; addLane(46, 1, 1) = 0; route(7, 0) = -1
                enter(10) = 0; move(50) = 0; read(7) = 0
                move(1) = 1; part(0, 1) = 10; part(0, 2) = 51; share() = 1.0
                undo() = 5; part(0, 1) = 0; part(0, 2) = 50; lane(0, 3) = 0; lane(0, 4) = 0; total(3) = 0
                takeOff(0) = 50; part(0, 1) = 9; part(0, 2) = 50; share() = 0.0
                undo() = 5; part(0, 1) = 0
                removeRoute(7) = 0
                move(500) = 0; move(450) = 1; part(0, 1) = 4; part(0, 2) = 1000; lost(4) = 1
                undo() = 5; part(0, 1) = 0; lost(4) = 0
                undo() = 4; undo() = 3; part(0, 8) = 0
                """);
        Sentences.promise(11, "Restores the state that was saved last", NEAR + """
                # nothing is left of a part that has not entered any more
                enter(10) = 0; move(50) = 0; read(7) = 0; read(7) = 0; takeOff(0) = 50
                total(9) = 1; total(5) = 1; share() = 0.0
                undo() = 5; undo() = 4; undo() = 3; undo() = 2; undo() = 1
                total(1) = 0; total(2) = 0; total(3) = 0; total(4) = 0; total(5) = 0
                total(9) = 0; total(10) = 0; total(11) = 0; total(12) = 0; share() = 1.0
                enter(20) = 0
                part(0, 0) = 20; part(0, 1) = 0; part(0, 3) = -1; part(0, 7) = 0; total(9) = 0; total(5) = 0
                """);
        Sentences.promise(11, "Returns the number of saved states that remain.", """
                10 times move(1) = 0
                total(13) = 6
                undo() = 5; total(13) = 5; undo() = 4; total(13) = 4; undo() = 3; total(13) = 3
                undo() = 2; total(13) = 2; undo() = 1; total(13) = 1; undo() = 0; total(13) = 0
                """);
        Sentences.promise(11, "Throws `IllegalStateException` if no state is saved", """
                undo() = ISE
                move(0) = IAE
                undo() = ISE
                append(48) = 1
                undo() = ISE
                move(1) = 0
                undo() = 0
                undo() = ISE
                7 times move(1) = 0
                undo() = 5; undo() = 4; undo() = 3; undo() = 2; undo() = 1; undo() = 0
                undo() = ISE
                total(0) = 1
                """);
    }
}
