/** Promises 1 to 6, 13, 16 and 17: a new object, settings, lanes, routes. */
public final class SettingsLanesRoutesTest {
    public static void main(String[] arguments) {
        newObject();
        set();
        setWithParts();
        addLane();
        emptyLane();
        route();
        removeRoute();
        laneProperties();
        Script.finish();
    }

    private static void newObject() {
        StringBuilder totals = new StringBuilder();
        for (int property = 0; property <= 14; property++) {
            totals.append("total(").append(property).append(") = 0\n");
        }
        Script.check("promise 1: totals", totals.toString());
        Script.check("promise 1", """
                setting(0) = 300
                setting(1) = 20
                setting(2) = 50
                setting(3) = 40
                setting(4) = 2000
                setting(5) = 5
                lane(0, 0) = IOOBE
                part(0, 0) = IOOBE
                routeAt(0) = -1
                ranked(0) = -1
                share() = 1.0
                entryIn() = 0
                nextLeaving() = -1
                laneFor(0, 10) = -1
                laneFor(999, 400) = -1
                errorPosition() = 0
                clear() = 0
                undo() = ISE
                """);
        Script.due("promise 1: NONE", String.valueOf(PickScanner.NONE), "-1");
    }

    private static void set() {
        int[][] ranges = {{300, 50, 1000}, {20, 0, 200}, {50, 0, 500}, {40, 0, 500}, {2000, 1000, 5000}, {5, 0, 100}};
        for (int index = 0; index < ranges.length; index++) {
            int initial = ranges[index][0];
            int least = ranges[index][1];
            int greatest = ranges[index][2];
            String lines = """
                    set(INDEX, BELOW) = IAE
                    set(INDEX, ABOVE) = IAE
                    set(INDEX, 2147483647) = IAE
                    set(INDEX, -2147483648) = IAE
                    total(13) = 0
                    setting(INDEX) = INITIAL
                    set(INDEX, LEAST) = INITIAL
                    setting(INDEX) = LEAST
                    set(INDEX, GREATEST) = LEAST
                    setting(INDEX) = GREATEST
                    set(INDEX, GREATEST) = GREATEST
                    total(13) = 3
                    undo() = 2
                    setting(INDEX) = GREATEST
                    undo() = 1
                    setting(INDEX) = LEAST
                    undo() = 0
                    setting(INDEX) = INITIAL
                    """;
            Script.check("promise 2: setting " + index, lines
                    .replace("INDEX", "" + index).replace("BELOW", "" + (least - 1)).replace("ABOVE", "" + (greatest + 1))
                    .replace("INITIAL", "" + initial).replace("LEAST", "" + least).replace("GREATEST", "" + greatest));
        }
        Script.check("promises 2 and 16: index", """
                set(-1, 100) = IOOBE
                set(6, 100) = IOOBE
                set(6, -5) = IOOBE
                set(2147483647, 100) = IOOBE
                setting(-1) = IOOBE
                setting(6) = IOOBE
                setting(-2147483648) = IOOBE
                total(13) = 0
                """);
    }

    private static void setWithParts() {
        Script.check("promise 2: with parts on the belt", """
                enter(10) = 0
                set(0, 300) = ISE
                set(0, 49) = IAE
                set(6, 300) = IOOBE
                total(13) = 1
                takeOff(0) = 0
                set(0, 301) = 300
                setting(0) = 301
                """);
    }

    private static void addLane() {
        Script.check("promise 3", """
                addLane(0, 1, 1) = IAE
                addLane(5000, 1, 1) = IAE
                addLane(1, 0, 1) = IAE
                addLane(1, 201, 1) = IAE
                addLane(1, 1, 0) = IAE
                addLane(1, 1, 51) = IAE
                addLane(-2147483648, 2147483647, -1) = IAE
                total(6) = 0
                total(13) = 0
                addLane(1, 1, 1) = 0
                addLane(4999, 200, 50) = 1
                addLane(1, 1, 1) = 2
                addLane(20, 30, 40) = 3
                addLane(5, 6, 7) = 4
                addLane(8, 9, 10) = 5
                total(6) = 6
                addLane(8, 9, 10) = ISE
                addLane(8, 9, 51) = IAE
                lane(0, 0) = 1
                lane(0, 1) = 1
                lane(0, 2) = 1
                lane(1, 0) = 4999
                lane(1, 1) = 200
                lane(1, 2) = 50
                lane(3, 0) = 20
                lane(3, 1) = 30
                lane(3, 2) = 40
                lane(3, 3) = 0
                lane(3, 4) = 0
                lane(3, 5) = 0
                undo() = 5
                lane(5, 0) = IOOBE
                lane(4, 0) = 5
                addLane(100, 2, 3) = 5
                lane(5, 0) = 100
                """);
    }

    private static void emptyLane() {
        Script.check("promise 4", """
                emptyLane(0) = IOOBE
                emptyLane(-1) = IOOBE
                set(0, 50) = 300
                addLane(100, 1, 2) = 0
                emptyLane(1) = IOOBE
                emptyLane(0) = 0
                route(7, 0) = -1
                enter(10) = 0
                move(50) = 0
                read(7) = 0
                lane(0, 3) = 0
                move(55) = 1
                part(0, 1) = 10
                lane(0, 3) = 1
                lane(0, 4) = 1
                emptyLane(0) = 1
                lane(0, 3) = 0
                lane(0, 4) = 1
                emptyLane(0) = 0
                undo() = 5
                lane(0, 3) = 0
                undo() = 4
                lane(0, 3) = 1
                part(0, 1) = 10
                """);
    }

    private static void route() {
        Script.check("promise 5", """
                route(0, 0) = IOOBE
                addLane(100, 1, 1) = 0
                addLane(200, 1, 1) = 1
                route(-1, 0) = IAE
                route(1000, 0) = IAE
                route(1000, 2) = IAE
                route(0, -1) = IOOBE
                route(0, 2) = IOOBE
                total(13) = 2
                route(999, 1) = -1
                route(0, 0) = -1
                route(500, 1) = -1
                route(500, 0) = 1
                route(500, 0) = 0
                total(7) = 3
                total(13) = 6
                routeAt(0) = 0
                routeAt(1) = 5000
                routeAt(2) = 9991
                routeAt(3) = -1
                routeAt(2147483647) = -1
                routeAt(-1) = IAE
                routeAt(-2147483648) = IAE
                laneFor(500, 10) = 0
                laneFor(999, 10) = 1
                laneFor(1, 10) = -1
                undo() = 5
                undo() = 4
                routeAt(1) = 5001
                laneFor(500, 10) = 1
                undo() = 3
                routeAt(1) = 9991
                total(7) = 2
                """);
        StringBuilder thirty = new StringBuilder("addLane(100, 1, 1) = 0\naddLane(100, 1, 1) = 1\n");
        for (int i = 0; i < 30; i++) {
            // 7 and 30 have no common factor, so that each code comes once, and not in order.
            thirty.append("route(").append(10 * (i * 7 % 30)).append(", ").append(i % 2).append(") = -1\n");
        }
        for (int i = 0; i < 30; i++) {
            int lane = i * 13 % 30 % 2;
            thirty.append("routeAt(").append(i).append(") = ").append(100 * i + lane).append("\n");
        }
        Script.check("promise 5: thirty routes", thirty + """
                routeAt(30) = -1
                total(7) = 30
                lane(0, 5) = 15
                lane(1, 5) = 15
                route(5, 0) = ISE
                route(999, 0) = ISE
                route(999, 2) = IOOBE
                route(1000, 2) = IAE
                route(290, 0) = 1
                total(7) = 30
                lane(0, 5) = 16
                lane(1, 5) = 14
                removeRoute(0) = 0
                total(7) = 29
                route(5, 1) = -1
                routeAt(0) = 51
                routeAt(29) = 2900
                """);
    }

    private static void removeRoute() {
        Script.check("promise 6", """
                removeRoute(-1) = IAE
                removeRoute(1000) = IAE
                removeRoute(0) = ISE
                removeRoute(999) = ISE
                total(13) = 0
                addLane(100, 1, 1) = 0
                addLane(100, 1, 1) = 1
                route(1, 0) = -1
                route(2, 1) = -1
                route(3, 0) = -1
                removeRoute(2) = 1
                removeRoute(2) = ISE
                routeAt(0) = 10
                routeAt(1) = 30
                routeAt(2) = -1
                laneFor(2, 10) = -1
                laneFor(3, 10) = 0
                removeRoute(3) = 0
                removeRoute(1) = 0
                routeAt(0) = -1
                total(7) = 0
                undo() = 5
                undo() = 4
                undo() = 3
                routeAt(1) = 21
                routeAt(2) = 30
                total(7) = 3
                """);
    }

    private static void laneProperties() {
        Script.check("promise 13", """
                lane(0, 6) = IOOBE
                addLane(100, 2, 3) = 0
                lane(-1, 0) = IOOBE
                lane(1, 0) = IOOBE
                lane(1, 6) = IOOBE
                lane(0, -1) = IAE
                lane(0, 6) = IAE
                lane(0, 2147483647) = IAE
                addLane(100, 2, 3) = 1
                route(4, 1) = -1
                route(5, 1) = -1
                route(6, 0) = -1
                lane(1, 5) = 2
                lane(0, 5) = 1
                route(4, 0) = 1
                lane(1, 5) = 1
                lane(0, 5) = 2
                """);
    }
}
