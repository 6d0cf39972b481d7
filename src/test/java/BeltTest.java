/** Promises 7 to 11: entering, reading, moving, taking off, undoing. */
public final class BeltTest {
    public static void main(String[] arguments) {
        enter();
        enterLimits();
        merging();
        scannerAndShadow();
        shadowOrScanner();
        smallestTail();
        doublesAndRepeats();
        conflicts();
        moveLimits();
        windows();
        gaps();
        greatestFrontFirst();
        fullLanes();
        freshParts();
        reasons();
        takeOff();
        undo();
        undoOfEachCall();
        undoAfterLeaving();
        Script.finish();
    }

    private static void enter() {
        Script.check("promise 7", """
                enter(9) = IAE
                enter(401) = IAE
                enter(-2147483648) = IAE
                enter(400) = 0
                enter(401) = IAE
                enter(10) = ISE
                total(1) = 1
                total(13) = 1
                part(0, 0) = 400
                part(0, 1) = 0
                part(0, 2) = 0
                part(0, 3) = -1
                part(0, 4) = 0
                part(0, 5) = 0
                part(0, 6) = 0
                part(0, 7) = 0
                part(0, 8) = -1
                part(0, 9) = 0
                move(399) = 0
                enter(10) = ISE
                move(1) = 0
                enter(10) = 1
                total(1) = 2
                total(2) = 2
                part(1, 0) = 10
                part(1, 2) = 0
                part(0, 2) = 400
                undo() = 3
                total(1) = 1
                part(1, 0) = IOOBE
                enter(20) = 1
                part(1, 0) = 20
                """);
    }

    private static void enterLimits() {
        StringBuilder twenty = new StringBuilder("set(5, 0) = 5\n");
        for (int i = 0; i < 20; i++) {
            twenty.append("enter(10) = ").append(i).append("\nmove(10) = 0\n");
        }
        Script.check("promise 7: twenty on the belt", twenty + """
                enter(10) = ISE
                enter(9) = IAE
                total(2) = 20
                part(0, 2) = 200
                part(19, 2) = 10
                takeOff(0) = 200
                enter(10) = 20
                total(2) = 20
                total(12) = 0
                """);
        // Past the 512th call; before it, no more than 256 parts can enter.
        StringBuilder hundreds = new StringBuilder();
        for (int i = 0; i < 300; i++) {
            hundreds.append("enter(10) = ").append(i).append("\ntakeOff(").append(i).append(") = 0\n");
        }
        Script.check("promise 7: three hundred in all", hundreds + """
                enter(10) = ISE
                enter(9) = IAE
                total(1) = 300
                total(5) = 300
                part(299, 1) = 9
                part(300, 1) = IOOBE
                """);
    }

    private static void merging() {
        Script.check("promise 7: merging", """
                enter(10) = 0
                move(14) = 0
                enter(10) = 1
                part(0, 5) = 1
                part(1, 5) = 1
                total(12) = 2
                move(15) = 0
                enter(10) = 2
                part(2, 5) = 0
                move(10) = 0
                enter(10) = 3
                part(2, 5) = 1
                part(3, 5) = 1
                total(12) = 4
                undo() = 5
                part(2, 5) = 0
                total(12) = 2
                """);
        Script.check("promise 7: merge gap 0", """
                set(5, 0) = 5
                enter(10) = 0
                move(10) = 0
                enter(10) = 1
                total(12) = 0
                """);
        Script.check("promise 7: merge gap 100", """
                set(5, 100) = 5
                enter(10) = 0
                move(109) = 0
                enter(10) = 1
                total(12) = 2
                takeOff(1) = 0
                move(1) = 0
                enter(10) = 2
                part(2, 5) = 0
                total(12) = 2
                """);
        Script.check("promise 7: a part that was taken off is in nobody's way", """
                enter(400) = 0
                takeOff(0) = 0
                enter(400) = 1
                part(0, 5) = 0
                part(1, 5) = 0
                """);
        Script.check("promise 7: a merged part has no lane any more", """
                set(0, 50) = 300
                set(5, 100) = 5
                addLane(500, 1, 1) = 0
                route(3, 0) = -1
                enter(20) = 0
                move(50) = 0
                read(3) = 0
                part(0, 8) = 0
                enter(10) = 1
                part(0, 8) = -1
                part(0, 3) = 3
                """);
    }

    private static void scannerAndShadow() {
        Script.check("promise 8: where a part is read", """
                set(0, 100) = 300
                set(1, 30) = 20
                read(-1) = IAE
                read(1000) = IAE
                total(13) = 2
                enter(40) = 0
                move(99) = 0
                read(5) = -1
                total(8) = 1
                part(0, 3) = -1
                move(1) = 0
                read(5) = 0
                part(0, 3) = 5
                move(39) = 0
                read(5) = 0
                part(0, 7) = 1
                move(1) = 0
                read(5) = 0
                part(0, 7) = 2
                move(29) = 0
                read(5) = 0
                part(0, 7) = 2
                part(0, 6) = 1
                move(1) = 0
                read(5) = -1
                total(8) = 2
                total(9) = 2
                total(10) = 1
                undo() = 5
                total(8) = 1
                """);
        Script.check("promise 8: shadow 0", """
                set(0, 100) = 300
                set(1, 0) = 20
                enter(40) = 0
                move(140) = 0
                read(5) = -1
                """);
        Script.check("promise 8: codes 0 and 999", """
                set(0, 50) = 300
                enter(10) = 0
                move(59) = 0
                read(0) = 0
                part(0, 3) = 0
                undo() = 3
                part(0, 3) = -1
                read(999) = 0
                part(0, 3) = 999
                read(0) = 0
                part(0, 3) = 999
                part(0, 4) = 1
                """);
    }

    private static void shadowOrScanner() {
        Script.check("promise 8: the shadow first, if its part has no code", """
                set(0, 100) = 300
                set(1, 30) = 20
                enter(20) = 0
                move(30) = 0
                enter(20) = 1
                move(100) = 0
                read(5) = 0
                read(6) = 1
                read(5) = 1
                part(0, 3) = 5
                part(0, 4) = 0
                part(1, 3) = 6
                part(1, 4) = 1
                move(20) = 0
                read(7) = 1
                takeOff(1) = 120
                move(1) = 0
                read(7) = -1
                """);
        Script.check("promise 8: a shadow with a code, and no part at the scanner", """
                set(0, 100) = 300
                set(1, 30) = 20
                enter(20) = 0
                move(110) = 0
                read(5) = 0
                move(10) = 0
                read(6) = 0
                part(0, 4) = 1
                """);
    }

    private static void smallestTail() {
        Script.check("promise 8: only the smallest tail casts a shadow", """
                set(0, 100) = 300
                set(1, 200) = 20
                enter(10) = 0
                move(20) = 0
                enter(10) = 1
                move(20) = 0
                enter(10) = 2
                move(70) = 0
                part(0, 2) = 110
                read(5) = 0
                move(20) = 0
                part(1, 2) = 110
                read(5) = 1
                move(20) = 0
                part(2, 2) = 110
                read(6) = 2
                read(7) = 2
                part(2, 4) = 1
                """);
        Script.check("promise 8: the others have no code, but cast no shadow", """
                set(0, 100) = 300
                set(1, 200) = 20
                enter(10) = 0
                move(20) = 0
                enter(10) = 1
                move(20) = 0
                enter(10) = 2
                move(85) = 0
                part(1, 2) = 105
                read(5) = 0
                undo() = 5
                move(5) = 0
                read(5) = 1
                move(15) = 0
                part(2, 2) = 105
                read(6) = 2
                part(0, 3) = -1
                part(1, 3) = 5
                """);
    }

    private static void doublesAndRepeats() {
        Script.check("promise 8: doubles and repeats", """
                set(0, 100) = 300
                enter(300) = 0
                move(100) = 0
                read(5) = 0
                move(50) = 0
                read(5) = 0
                part(0, 6) = 0
                part(0, 7) = 1
                move(1) = 0
                read(5) = 0
                part(0, 6) = 1
                part(0, 7) = 1
                move(50) = 0
                read(5) = 0
                part(0, 6) = 1
                part(0, 7) = 2
                move(1) = 0
                read(5) = 0
                part(0, 6) = 2
                part(0, 7) = 2
                total(9) = 2
                total(10) = 2
                total(11) = 0
                """);
        Script.check("promise 8: double distance 0", """
                set(0, 100) = 300
                set(2, 0) = 50
                enter(300) = 0
                move(100) = 0
                read(5) = 0
                read(5) = 0
                part(0, 7) = 1
                move(1) = 0
                read(5) = 0
                part(0, 7) = 1
                part(0, 6) = 1
                """);
        Script.check("promise 8: double distance 500", """
                set(0, 100) = 300
                set(1, 200) = 20
                set(2, 500) = 50
                enter(400) = 0
                move(100) = 0
                read(5) = 0
                move(500) = 0
                read(5) = 0
                part(0, 7) = 1
                move(1) = 0
                read(5) = 0
                part(0, 7) = 1
                part(0, 6) = 1
                """);
    }

    private static void conflicts() {
        Script.check("promise 8: a read that differs", """
                set(0, 100) = 300
                addLane(1500, 1, 1) = 0
                route(5, 0) = -1
                enter(300) = 0
                move(100) = 0
                read(5) = 0
                part(0, 8) = 0
                move(60) = 0
                read(6) = 0
                part(0, 3) = 5
                part(0, 4) = 1
                part(0, 6) = 0
                part(0, 7) = 0
                part(0, 8) = -1
                move(10) = 0
                read(5) = 0
                part(0, 6) = 0
                part(0, 7) = 1
                read(6) = 0
                part(0, 7) = 1
                part(0, 6) = 0
                move(41) = 0
                read(5) = 0
                part(0, 7) = 2
                total(11) = 1
                undo() = 5
                undo() = 4
                undo() = 3
                undo() = 2
                undo() = 1
                total(11) = 1
                undo() = 0
                total(11) = 0
                part(0, 8) = 0
                """);
    }

    private static void moveLimits() {
        Script.check("promise 9: limits", """
                move(0) = IAE
                move(501) = IAE
                move(-2147483648) = IAE
                move(2147483647) = IAE
                total(0) = 0
                move(1) = 0
                move(498) = 0
                total(0) = 499
                99 times move(500) = 0
                total(0) = 49999
                move(2) = ISE
                move(500) = ISE
                move(501) = IAE
                move(1) = 0
                total(0) = 50000
                move(1) = ISE
                move(0) = IAE
                undo() = 5
                total(0) = 49999
                enter(10) = 0
                fateOf(0) = 1
                nextLeaving() = 2000
                """);
    }

    private static void windows() {
        Script.check("promise 9: the first millimeter of a window, an odd length", """
                set(0, 50) = 300
                addLane(100, 5, 9) = 0
                route(7, 0) = -1
                enter(21) = 0
                move(50) = 0
                read(7) = 0
                move(59) = 0
                part(0, 2) = 109
                part(0, 1) = 0
                move(1) = 1
                part(0, 1) = 10
                part(0, 2) = 110
                part(0, 8) = -1
                part(0, 9) = 0
                lane(0, 3) = 1
                lane(0, 4) = 1
                total(3) = 1
                """);
        Script.check("promise 9: the last millimeter of a window", """
                set(0, 50) = 300
                addLane(30, 15, 9) = 0
                route(7, 0) = -1
                enter(10) = 0
                move(48) = 0
                read(7) = -1
                move(1) = 0
                move(1) = 0
                read(7) = 0
                fateOf(0) = 4
                undo() = 5
                undo() = 4
                undo() = 3
                move(2) = 0
                read(7) = 0
                addLane(30, 17, 9) = 1
                route(7, 1) = 0
                fateOf(0) = 11
                move(1) = 1
                part(0, 1) = 11
                part(0, 2) = 51
                """);
        Script.check("promise 9: just behind the window", """
                set(0, 50) = 300
                addLane(30, 16, 9) = 0
                route(7, 0) = -1
                enter(10) = 0
                move(50) = 0
                read(7) = 0
                fateOf(0) = 4
                move(1) = 0
                part(0, 9) = 0
                """);
    }

    /** Parts 0, 1 and 2 of length 10 behind one another; only part 1 gets a code, with a lane at 200. */
    private static String threeParts(int gapAhead, int gapBehind) {
        int second = 10 + gapAhead;
        int third = 10 + gapBehind;
        int toScanner = 55 - third;
        return """
                set(0, 50) = 300
                set(1, 0) = 20
                addLane(200, 10, 9) = 0
                route(7, 0) = -1
                enter(10) = 0
                """ + "move(" + second + ") = 0\nenter(10) = 1\nmove(" + third + ") = 0\nenter(10) = 2\n"
                + "move(" + toScanner + ") = 0\nread(7) = 1\npart(1, 2) = 55\n";
    }

    private static void gaps() {
        Script.check("promise 9: gaps that are just enough", threeParts(40, 40) + """
                fateOf(1) = 10
                move(149) = 0
                part(1, 9) = 0
                move(1) = 1
                part(1, 1) = 10
                part(1, 2) = 205
                gapAhead(2) = 90
                """);
        Script.check("promise 9: the gap ahead is too small", threeParts(39, 40) + """
                fateOf(1) = 5
                move(149) = 0
                part(1, 9) = 0
                move(1) = 0
                part(1, 9) = 5
                takeOff(0) = 254
                move(1) = 1
                part(1, 1) = 10
                part(1, 9) = 5
                """);
        Script.check("promise 9: the gap behind is too small", threeParts(40, 39) + """
                fateOf(1) = 5
                move(150) = 0
                part(1, 9) = 5
                move(8) = 0
                takeOff(2) = 164
                fateOf(1) = 10
                move(1) = 1
                part(1, 1) = 10
                part(1, 2) = 214
                """);
        Script.check("promise 9: the gap came too late", threeParts(40, 39) + """
                move(159) = 0
                part(1, 9) = 5
                part(1, 2) = 214
                takeOff(2) = 165
                fateOf(1) = 5
                move(1) = 0
                part(1, 1) = 0
                """);
    }

    private static void greatestFrontFirst() {
        // Parts 1 and 2 wait in the window of a full lane; when it is emptied, there is room for one of them.
        Script.check("promise 9: the greatest front first", """
                set(0, 50) = 300
                set(1, 0) = 20
                addLane(100, 200, 1) = 0
                route(7, 0) = -1
                enter(10) = 0
                move(50) = 0
                read(7) = 0
                enter(10) = 1
                move(50) = 0
                read(7) = 1
                enter(10) = 2
                move(50) = 1
                read(7) = 2
                move(54) = 0
                part(1, 9) = 6
                part(2, 9) = 0
                move(1) = 0
                part(2, 9) = 6
                emptyLane(0) = 1
                fateOf(1) = 10
                fateOf(2) = 6
                move(1) = 1
                part(1, 1) = 10
                part(1, 2) = 156
                part(2, 1) = 0
                part(2, 2) = 106
                lane(0, 3) = 1
                lane(0, 4) = 2
                """);
        Script.check("promise 9: parts leave in the same millimeter", """
                set(0, 50) = 300
                set(1, 0) = 20
                addLane(200, 1, 1) = 0
                addLane(150, 1, 1) = 1
                route(7, 0) = -1
                route(8, 1) = -1
                enter(10) = 0
                move(50) = 0
                read(7) = 0
                enter(10) = 1
                move(50) = 0
                read(8) = 1
                nextLeaving() = 105
                move(104) = 0
                move(1) = 2
                part(0, 1) = 10
                part(1, 1) = 11
                part(0, 2) = 205
                part(1, 2) = 155
                """);
        // In the millimeter in which part 0 is lost it is still in the way, as the parts are tried first.
        Script.check("promise 9: the part ahead is lost", """
                set(0, 50) = 300
                set(1, 0) = 20
                set(3, 15) = 40
                set(4, 1000) = 2000
                addLane(900, 200, 9) = 0
                route(7, 0) = -1
                enter(10) = 0
                move(20) = 0
                enter(10) = 1
                move(35) = 0
                read(5) = 0
                move(20) = 0
                read(7) = 1
                part(1, 2) = 55
                fateOf(0) = 4
                fateOf(1) = 10
                nextLeaving() = 925
                move(500) = 0
                move(425) = 1
                part(0, 1) = 4
                part(1, 1) = 0
                part(1, 2) = 980
                part(1, 9) = 5
                nextLeaving() = 1
                move(1) = 1
                part(1, 1) = 10
                part(1, 2) = 981
                """);
    }

    private static void fullLanes() {
        Script.check("promise 9: a full lane", """
                set(0, 50) = 300
                set(1, 0) = 20
                set(3, 0) = 40
                addLane(200, 10, 1) = 0
                route(7, 0) = -1
                enter(10) = 0
                move(20) = 0
                enter(10) = 1
                move(35) = 0
                read(7) = 0
                move(20) = 0
                read(7) = 1
                fateOf(0) = 10
                fateOf(1) = 6
                nextLeaving() = 130
                move(130) = 1
                part(0, 2) = 205
                lane(0, 3) = 1
                move(19) = 0
                part(1, 9) = 0
                move(1) = 0
                part(1, 2) = 205
                part(1, 9) = 6
                fateOf(1) = 6
                move(8) = 0
                emptyLane(0) = 1
                fateOf(1) = 10
                nextLeaving() = 1
                move(1) = 1
                part(1, 1) = 10
                part(1, 2) = 214
                part(1, 9) = 6
                lane(0, 3) = 1
                lane(0, 4) = 2
                undo() = 5
                move(5) = 1
                part(1, 1) = 10
                part(1, 2) = 214
                """);
    }

    /** Objects are used again: nothing of an earlier part may stick to a later one. */
    private static void freshParts() {
        Script.check("promise 7: a new part has nothing of an earlier one", """
                set(0, 50) = 300
                set(1, 0) = 20
                set(2, 0) = 50
                set(5, 100) = 5
                addLane(40, 200, 1) = 0
                route(7, 0) = -1
                enter(30) = 0
                move(40) = 0
                enter(10) = 1
                move(10) = 0
                read(7) = 0
                read(7) = 0
                move(1) = 0
                read(7) = 0
                read(8) = 0
                part(0, 4) = 1
                part(0, 5) = 1
                part(0, 6) = 1
                part(0, 7) = 1
                takeOff(0) = 51
                takeOff(1) = 11
                enter(20) = 2
                enter(20) = ISE
                move(120) = 0
                enter(20) = 3
                part(2, 3) = -1
                part(2, 4) = 0
                part(2, 5) = 0
                part(2, 6) = 0
                part(2, 7) = 0
                part(3, 3) = -1
                part(3, 4) = 0
                part(3, 5) = 0
                part(3, 6) = 0
                part(3, 7) = 0
                part(0, 4) = 1
                part(0, 6) = 1
                part(0, 7) = 1
                total(9) = 1
                total(10) = 1
                total(11) = 1
                total(12) = 2
                """);
        Script.check("promise 7: a new part has not been tried", """
                set(0, 50) = 300
                set(1, 0) = 20
                addLane(40, 100, 1) = 0
                route(7, 0) = -1
                enter(10) = 0
                move(15) = 0
                enter(10) = 1
                move(35) = 0
                read(7) = 0
                move(1) = 0
                part(0, 9) = 5
                takeOff(0) = 51
                takeOff(1) = 36
                enter(10) = 2
                part(2, 9) = 0
                part(0, 9) = 5
                """);
        Script.check("promises 9, 14 and 20: the last lane takes parts like the others", """
                set(0, 50) = 300
                addLane(9, 1, 1) = 0
                addLane(9, 1, 1) = 1
                addLane(9, 1, 1) = 2
                addLane(9, 1, 1) = 3
                addLane(9, 1, 1) = 4
                addLane(90, 1, 1) = 5
                route(7, 5) = -1
                enter(10) = 0
                move(50) = 0
                read(7) = 0
                move(500) = 1
                part(0, 1) = 15
                part(0, 2) = 95
                total(3) = 1
                share() = 1.0
                lane(5, 4) = 1
                """);
    }

    private static void reasons() {
        Script.check("promises 9 and 15: the reasons", """
                set(0, 50) = 300
                set(1, 0) = 20
                set(4, 1000) = 2000
                addLane(200, 10, 1) = 0
                addLane(4999, 200, 1) = 1
                route(7, 0) = -1
                route(8, 1) = -1
                enter(10) = 0
                move(100) = 0
                enter(10) = 1
                move(50) = 0
                read(7) = 1
                read(8) = 1
                move(50) = 0
                enter(10) = 2
                move(50) = 0
                read(8) = 2
                move(50) = 0
                enter(10) = 3
                move(14) = 0
                enter(10) = 4
                move(50) = 0
                read(7) = 4
                part(0, 2) = 364
                part(1, 2) = 264
                part(2, 2) = 164
                part(3, 2) = 64
                part(4, 2) = 50
                part(3, 5) = 1
                part(4, 5) = 1
                fateOf(0) = 1
                fateOf(1) = 2
                fateOf(2) = 4
                fateOf(3) = 1
                fateOf(4) = 3
                nextLeaving() = 636
                move(500) = 0
                move(135) = 0
                move(1) = 1
                part(0, 1) = 1
                part(0, 2) = 1000
                part(0, 8) = -1
                move(100) = 1
                part(1, 1) = 2
                move(100) = 1
                part(2, 1) = 4
                move(114) = 2
                part(3, 1) = 1
                part(4, 1) = 3
                lost(1) = 2
                lost(2) = 1
                lost(3) = 1
                lost(4) = 1
                lost(5) = 0
                lost(6) = 0
                total(4) = 5
                total(2) = 0
                share() = 0.0
                """);
        Script.check("promise 9: the order of the reasons", """
                set(0, 50) = 300
                set(1, 0) = 20
                set(5, 100) = 5
                set(4, 1000) = 2000
                addLane(100, 100, 1) = 0
                route(7, 0) = -1
                enter(10) = 0
                move(50) = 0
                enter(10) = 1
                read(7) = 0
                part(0, 5) = 1
                read(8) = 0
                fateOf(0) = 2
                undo() = 5
                fateOf(0) = 3
                """);
        Script.check("promise 9: conflicting and merged count before a failure, which stays", """
                set(0, 100) = 300
                set(1, 100) = 20
                set(4, 1000) = 2000
                addLane(60, 100, 1) = 0
                route(7, 0) = -1
                enter(10) = 0
                move(20) = 0
                enter(10) = 1
                move(80) = 0
                read(7) = 0
                move(1) = 0
                part(0, 9) = 5
                fateOf(0) = 5
                read(8) = 0
                part(0, 9) = 5
                fateOf(0) = 2
                move(500) = 0
                move(399) = 1
                part(0, 1) = 2
                part(0, 9) = 5
                lost(2) = 1
                lost(5) = 0
                """);
    }

    private static void takeOff() {
        Script.check("promise 10", """
                takeOff(0) = IOOBE
                takeOff(-1) = IOOBE
                enter(10) = 0
                move(30) = 0
                enter(10) = 1
                move(30) = 0
                enter(10) = 2
                takeOff(3) = IOOBE
                total(13) = 5
                gapAhead(2) = 20
                takeOff(1) = 30
                takeOff(1) = ISE
                part(1, 1) = 9
                part(1, 2) = 30
                part(1, 8) = -1
                gapAhead(2) = 50
                gapAhead(1) = ISE
                total(5) = 1
                total(4) = 0
                total(2) = 2
                fateOf(1) = 9
                takeOff(0) = 60
                gapAhead(2) = -1
                move(500) = 0
                part(1, 2) = 30
                part(0, 2) = 60
                part(2, 2) = 500
                undo() = 5
                undo() = 4
                part(0, 1) = 0
                undo() = 3
                part(1, 1) = 0
                total(5) = 0
                gapAhead(2) = 20
                takeOff(2) = 0
                enter(10) = 3
                """);
    }

    private static void undo() {
        Script.check("promise 11: six states at most", """
                undo() = ISE
                move(1) = 0
                move(2) = 0
                move(4) = 0
                move(8) = 0
                move(16) = 0
                total(13) = 5
                move(32) = 0
                total(13) = 6
                move(64) = 0
                total(13) = 6
                total(0) = 127
                undo() = 5
                total(0) = 63
                undo() = 4
                total(0) = 31
                undo() = 3
                total(0) = 15
                undo() = 2
                total(0) = 7
                undo() = 1
                total(0) = 3
                undo() = 0
                total(0) = 1
                undo() = ISE
                total(0) = 1
                move(5) = 0
                total(13) = 1
                undo() = 0
                total(0) = 1
                """);
        Script.check("promise 11: a call that throws saves nothing", """
                move(1) = 0
                move(0) = IAE
                set(0, 0) = IAE
                addLane(0, 0, 0) = IAE
                emptyLane(0) = IOOBE
                route(0, 0) = IOOBE
                removeRoute(0) = ISE
                enter(0) = IAE
                read(-1) = IAE
                takeOff(0) = IOOBE
                load() = ISE
                total(13) = 1
                undo() = 0
                total(0) = 0
                """);
        Script.check("promise 11: the buffer is not restored", """
                move(1) = 0
                type ?c
                undo() = 0
                total(14) = 2
                errorPosition() = 2
                """);
    }

    private static void undoOfEachCall() {
        Script.check("promise 11: load", """
                addLane(100, 1, 1) = 0
                addLane(100, 1, 1) = 1
                type 0
                load() = 0
                laneFor(1, 10) = 0
                type 1
                load() = 0
                laneFor(1, 10) = 1
                type x
                undo() = 3
                laneFor(1, 10) = 0
                total(14) = 1
                undo() = 2
                laneFor(1, 10) = -1
                load() = 0
                laneFor(1, 10) = -1
                total(13) = 3
                """);
        Script.check("promise 11: repeats, and the time of the latest read", """
                set(0, 50) = 300
                enter(400) = 0
                move(50) = 0
                read(2) = 0
                move(51) = 0
                read(2) = 0
                part(0, 6) = 1
                undo() = 5
                part(0, 6) = 0
                part(0, 7) = 0
                read(2) = 0
                part(0, 6) = 1
                part(0, 7) = 0
                """);
        Script.check("promise 11: reads", """
                set(0, 50) = 300
                enter(10) = 0
                read(1) = -1
                move(50) = 0
                read(2) = 0
                read(2) = 0
                read(3) = 0
                undo() = 5
                part(0, 4) = 0
                part(0, 7) = 1
                undo() = 4
                part(0, 7) = 0
                undo() = 3
                part(0, 3) = -1
                undo() = 2
                total(8) = 1
                part(0, 2) = 0
                undo() = 1
                total(8) = 0
                undo() = 0
                part(0, 0) = IOOBE
                setting(0) = 50
                """);
    }

    private static void undoAfterLeaving() {
        Script.check("promise 11: a part that had left comes back, and leaves in another way", """
                set(0, 50) = 300
                set(4, 1000) = 2000
                addLane(100, 50, 1) = 0
                route(7, 0) = -1
                enter(10) = 0
                move(50) = 0
                read(7) = 0
                move(100) = 1
                part(0, 1) = 10
                part(0, 2) = 105
                share() = 1.0
                total(3) = 1
                undo() = 5
                part(0, 1) = 0
                part(0, 2) = 50
                lane(0, 3) = 0
                lane(0, 4) = 0
                total(3) = 0
                takeOff(0) = 50
                part(0, 1) = 9
                undo() = 5
                removeRoute(7) = 0
                move(500) = 0
                move(500) = 1
                part(0, 1) = 4
                part(0, 2) = 1000
                undo() = 5
                undo() = 4
                undo() = 3
                undo() = 2
                part(0, 3) = -1
                undo() = 1
                undo() = 0
                part(0, 1) = IOOBE
                enter(30) = 0
                part(0, 0) = 30
                part(0, 1) = 0
                part(0, 3) = -1
                """);
    }
}
