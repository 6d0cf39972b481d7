/** Promises 12 to 15 and 18 to 24: what there is, and what would be. */
public final class ViewsTest {
    public static void main(String[] arguments) {
        part();
        total();
        lost();
        gapAhead();
        ranked();
        share();
        fateOf();
        entryIn();
        nextLeaving();
        laneFor();
        nothingChanges();
        Script.finish();
    }

    private static void part() {
        Script.check("promise 12", """
                part(0, 0) = IOOBE
                part(0, 10) = IOOBE
                enter(123) = 0
                part(-1, 0) = IOOBE
                part(1, 0) = IOOBE
                part(1, 10) = IOOBE
                part(2147483647, 0) = IOOBE
                part(0, -1) = IAE
                part(0, 10) = IAE
                part(0, 2147483647) = IAE
                part(0, 0) = 123
                move(7) = 0
                part(0, 2) = 7
                """);
        Script.check("promise 12: the lane at present", """
                set(0, 50) = 300
                addLane(500, 10, 5) = 0
                addLane(600, 10, 5) = 1
                enter(20) = 0
                move(50) = 0
                part(0, 8) = -1
                read(42) = 0
                part(0, 8) = -1
                route(42, 1) = -1
                part(0, 8) = 1
                route(42, 0) = 1
                part(0, 8) = 0
                removeRoute(42) = 0
                part(0, 8) = -1
                type ?l20;01
                load() = 1
                part(0, 8) = 1
                type 2
                load() = 0
                part(0, 8) = -1
                addLane(700, 10, 5) = 2
                part(0, 8) = 2
                takeOff(0) = 50
                part(0, 8) = -1
                part(0, 3) = 42
                part(0, 0) = 20
                part(0, 2) = 50
                """);
    }

    private static void total() {
        Script.check("promise 14", """
                total(-1) = IAE
                total(15) = IAE
                total(2147483647) = IAE
                total(-2147483648) = IAE
                set(0, 50) = 300
                set(1, 0) = 20
                set(3, 0) = 40
                set(4, 1000) = 2000
                addLane(100, 10, 5) = 0
                addLane(200, 10, 5) = 1
                route(1, 0) = -1
                route(2, 1) = -1
                route(3, 1) = -1
                read(1) = -1
                enter(20) = 0
                move(50) = 0
                read(1) = 0
                read(1) = 0
                move(40) = 0
                enter(20) = 1
                move(20) = 1
                enter(20) = 2
                move(30) = 0
                read(2) = 1
                read(3) = 1
                move(20) = 0
                read(9) = 2
                takeOff(2) = 50
                move(500) = 0
                move(429) = 0
                total(4) = 0
                total(2) = 1
                move(1) = 1
                type ?c1
                total(0) = 1090
                total(1) = 3
                total(2) = 0
                total(3) = 1
                total(4) = 1
                total(5) = 1
                total(6) = 2
                total(7) = 3
                total(8) = 1
                total(9) = 1
                total(10) = 0
                total(11) = 1
                total(12) = 2
                total(13) = 6
                total(14) = 3
                lost(2) = 1
                share() = 0.3333333333333333
                """);
    }

    private static void lost() {
        Script.check("promise 15", """
                lost(0) = IAE
                lost(7) = IAE
                lost(-1) = IAE
                lost(9) = IAE
                lost(10) = IAE
                lost(2147483647) = IAE
                lost(1) = 0
                lost(2) = 0
                lost(3) = 0
                lost(4) = 0
                lost(5) = 0
                lost(6) = 0
                """);
        Script.check("promise 15: reasons 5 and 6", """
                set(0, 50) = 300
                set(1, 0) = 20
                set(3, 20) = 40
                set(4, 1000) = 2000
                addLane(200, 10, 1) = 0
                route(7, 0) = -1
                enter(10) = 0
                move(50) = 0
                read(7) = 0
                enter(10) = 1
                move(15) = 0
                enter(10) = 2
                move(35) = 0
                read(7) = 1
                move(50) = 0
                enter(10) = 3
                move(50) = 0
                read(7) = 3
                fateOf(0) = 10
                fateOf(1) = 5
                fateOf(2) = 1
                fateOf(3) = 6
                move(500) = 1
                move(500) = 3
                part(0, 1) = 10
                part(1, 1) = 5
                part(2, 1) = 1
                part(3, 1) = 6
                part(3, 9) = 6
                lost(1) = 1
                lost(2) = 0
                lost(3) = 0
                lost(4) = 0
                lost(5) = 1
                lost(6) = 1
                total(4) = 3
                share() = 0.25
                """);
    }

    private static void gapAhead() {
        Script.check("promise 18", """
                gapAhead(0) = IOOBE
                gapAhead(-1) = IOOBE
                set(5, 0) = 5
                enter(10) = 0
                gapAhead(0) = -1
                gapAhead(1) = IOOBE
                move(10) = 0
                enter(30) = 1
                gapAhead(1) = 0
                move(77) = 0
                enter(10) = 2
                gapAhead(0) = -1
                gapAhead(1) = 0
                gapAhead(2) = 47
                takeOff(1) = 77
                gapAhead(1) = ISE
                gapAhead(2) = 77
                takeOff(0) = 87
                gapAhead(2) = -1
                """);
    }

    private static void ranked() {
        Script.check("promise 19", """
                ranked(-1) = IAE
                ranked(-2147483648) = IAE
                ranked(0) = -1
                set(0, 50) = 300
                set(1, 0) = 20
                set(3, 500) = 40
                addLane(300, 10, 5) = 0
                addLane(75, 10, 5) = 1
                addLane(260, 10, 5) = 2
                enter(10) = 0
                move(40) = 0
                enter(10) = 1
                move(10) = 0
                read(1) = 0
                move(30) = 0
                enter(10) = 2
                move(10) = 0
                read(2) = 1
                move(30) = 0
                enter(10) = 3
                move(10) = 0
                read(3) = 2
                part(0, 2) = 130
                part(1, 2) = 90
                part(2, 2) = 50
                part(3, 2) = 10
                ranked(0) = 0
                ranked(3) = 3
                ranked(4) = -1
                ranked(2147483647) = -1
                route(3, 0) = -1
                ranked(0) = 2
                ranked(1) = 0
                ranked(2) = 1
                ranked(3) = 3
                route(2, 2) = -1
                # the distances: part 1 260 - 85 = 175, part 2 300 - 45 = 255
                ranked(0) = 1
                ranked(1) = 2
                ranked(2) = 0
                ranked(3) = 3
                route(1, 0) = -1
                # part 0 300 - 125 = 175 as well: the lower number comes first
                ranked(0) = 0
                ranked(1) = 1
                ranked(2) = 2
                route(2, 1) = 2
                # part 1 75 - 85 = -10
                ranked(0) = 1
                ranked(1) = 0
                ranked(2) = 2
                ranked(3) = 3
                ranked(4) = -1
                """);
        Script.check("promise 19: the middle of an odd length", """
                set(0, 50) = 300
                set(5, 0) = 5
                addLane(500, 10, 5) = 0
                addLane(525, 10, 5) = 1
                route(7, 0) = -1
                route(8, 1) = -1
                enter(11) = 0
                move(25) = 0
                enter(10) = 1
                move(25) = 0
                read(8) = 0
                move(25) = 0
                read(7) = 1
                # 525 - (75 - 5) = 455, 500 - (50 - 5) = 455
                ranked(0) = 0
                ranked(1) = 1
                """);
    }

    private static void share() {
        Script.check("promise 20", """
                share() = 1.0
                enter(10) = 0
                share() = 1.0
                takeOff(0) = 0
                share() = 0.0
                undo() = 1
                share() = 1.0
                set(0, 50) = ISE
                takeOff(0) = 0
                set(0, 50) = 300
                addLane(100, 10, 5) = 0
                route(1, 0) = -1
                enter(10) = 1
                move(50) = 0
                read(1) = 1
                move(55) = 1
                share() = 0.5
                enter(10) = 2
                move(50) = 0
                read(1) = 2
                share() = 0.5
                move(55) = 1
                share() = 0.6666666666666666
                """);
    }

    private static void fateOf() {
        Script.check("promise 21", """
                fateOf(0) = IOOBE
                fateOf(-1) = IOOBE
                enter(10) = 0
                fateOf(1) = IOOBE
                fateOf(0) = 1
                takeOff(0) = 0
                fateOf(0) = 9
                set(0, 50) = 300
                addLane(30, 50, 1) = 0
                addLane(40, 200, 1) = 1
                route(7, 0) = -1
                enter(10) = 1
                move(50) = 0
                read(7) = 1
                fateOf(1) = 10
                part(1, 1) = 0
                part(1, 2) = 50
                lane(0, 3) = 0
                emptyLane(0) = 0
                route(7, 1) = 0
                fateOf(1) = 11
                move(1) = 1
                part(1, 1) = 11
                fateOf(1) = 11
                """);
    }

    private static void entryIn() {
        Script.check("promise 22", """
                entryIn() = 0
                enter(400) = 0
                entryIn() = 405
                move(404) = 0
                entryIn() = 1
                move(1) = 0
                entryIn() = 0
                move(1) = 0
                entryIn() = 0
                enter(10) = 1
                entryIn() = 15
                takeOff(1) = 0
                entryIn() = 0
                takeOff(0) = 406
                entryIn() = 0
                set(5, 0) = 5
                enter(10) = 2
                entryIn() = 10
                move(10) = 0
                entryIn() = 0
                """);
        Script.check("promise 22: the last part is diverted before its tail is in", """
                set(0, 50) = 300
                addLane(60, 200, 1) = 0
                route(7, 0) = -1
                enter(100) = 0
                move(50) = 0
                entryIn() = 55
                read(7) = 0
                entryIn() = 55
                addLane(20, 100, 1) = 1
                route(7, 1) = 0
                entryIn() = 20
                move(19) = 0
                entryIn() = 1
                move(1) = 1
                part(0, 1) = 11
                entryIn() = 0
                """);
        StringBuilder twenty = new StringBuilder("set(5, 0) = 5\n");
        for (int i = 0; i < 20; i++) {
            twenty.append("enter(10) = ").append(i).append("\nmove(10) = 0\n");
        }
        Script.check("promise 22: the numbers of parts do not matter", twenty + """
                enter(10) = ISE
                entryIn() = 0
                """);
    }

    private static void nextLeaving() {
        Script.check("promise 23", """
                nextLeaving() = -1
                set(4, 5000) = 2000
                enter(10) = 0
                nextLeaving() = 5000
                move(300) = 0
                nextLeaving() = 4700
                addLane(310, 10, 1) = 0
                route(7, 0) = -1
                read(7) = 0
                nextLeaving() = 15
                move(14) = 0
                nextLeaving() = 1
                move(1) = 1
                nextLeaving() = -1
                """);
        Script.check("promise 23: the part behind leaves first", """
                set(0, 50) = 300
                addLane(60, 10, 1) = 0
                route(7, 0) = -1
                enter(10) = 0
                move(60) = 0
                enter(10) = 1
                move(50) = 0
                read(7) = 1
                nextLeaving() = 15
                move(15) = 1
                part(1, 1) = 10
                nextLeaving() = 1875
                """);
    }

    private static void laneFor() {
        Script.check("promise 24", """
                laneFor(-1, 10) = IAE
                laneFor(1000, 10) = IAE
                laneFor(0, 9) = IAE
                laneFor(0, 401) = IAE
                laneFor(0, 10) = -1
                laneFor(999, 400) = -1
                addLane(100, 10, 1) = 0
                addLane(200, 10, 1) = 1
                laneFor(0, 10) = -1
                type ?c500;?l100;01x
                load() = 2
                laneFor(499, 99) = 0
                laneFor(499, 100) = 1
                laneFor(500, 99) = -1
                route(499, 1) = -1
                laneFor(499, 99) = 1
                laneFor(498, 99) = 0
                route(500, 0) = -1
                laneFor(500, 400) = 0
                """);
    }

    private static void nothingChanges() {
        Script.check("promises 21 to 23: nothing changes, and the limit of the distance does not apply", """
                set(0, 50) = 300
                addLane(500, 10, 1) = 0
                route(7, 0) = -1
                99 times move(500) = 0
                enter(10) = 0
                move(50) = 0
                read(7) = 0
                move(400) = 0
                total(0) = 49950
                fateOf(0) = 10
                nextLeaving() = 55
                enter(100) = 1
                entryIn() = 105
                fateOf(1) = 1
                total(0) = 49950
                total(1) = 2
                total(2) = 2
                total(3) = 0
                total(13) = 6
                part(0, 2) = 450
                part(0, 1) = 0
                part(1, 2) = 0
                lane(0, 3) = 0
                lane(0, 4) = 0
                move(50) = 0
                move(1) = ISE
                fateOf(0) = 10
                fateOf(1) = 1
                nextLeaving() = 5
                """);
    }
}
