/** Terms: belt, settings, entering, reading. */
final class BeltSentences {
    /** The scanner as near as can be, and no shadow. */
    private static final String NEAR = "set(0, 50) = 300; set(1, 0) = 20\n";

    private BeltSentences() {
    }

    static void check() {
        distance();
        numberLengthFront();
        tailAndMiddle();
        aheadAndBehind();
        numberOfParts();
        ranges();
        scannerAndShadowRanges();
        doubleDistanceRange();
        gapRange();
        endRange();
        mergeGapRange();
        canEnter();
        merged();
        atTheScanner();
        shadow();
        smallestTail();
        owner();
        firstCode();
        doubles();
        conflicting();
    }

    private static void distance() {
        Sentences.noCase("Terms", "Each part is diverted once or lost, with a reason.");
        Sentences.noCase("Terms", "All distances are in millimeters and are integers.");
        Sentences.terms("The belt has moved by a distance, 0 at first", """
                total(0) = 0
                move(1) = 0
                total(0) = 1
                """);
        Sentences.terms("and at most 50000.", """
                99 times move(500) = 0
                move(499) = 0; total(0) = 49999
                move(2) = ISE; total(0) = 49999
                move(1) = 0; total(0) = 50000
                move(1) = ISE; total(0) = 50000
                move(500) = ISE; total(0) = 50000
                """);
    }

    private static void numberLengthFront() {
        Sentences.terms("A part has a number (0 for the first part that enters, and so on)", """
                part(0, 0) = IOOBE
                enter(10) = 0
                takeOff(0) = 0
                enter(11) = 1
                part(0, 0) = 10; part(1, 0) = 11; part(2, 0) = IOOBE
                undo() = 2
                enter(12) = 1
                part(1, 0) = 12
                """);
        Sentences.terms("a length, and a front, which is 0 when it enters", """
                move(123) = 0
                enter(10) = 0
                part(0, 0) = 10; part(0, 2) = 0
                move(400) = 0
                enter(400) = 1
                part(1, 0) = 400; part(1, 2) = 0; part(0, 2) = 400
                """);
    }

    private static void tailAndMiddle() {
        Sentences.terms("its tail is front - length", """
                enter(10) = 0
                move(9) = 0
                enter(10) = ISE
                move(1) = 0
                enter(400) = 1
                gapAhead(1) = 0
                move(400) = 0
                enter(10) = 2
                gapAhead(1) = 0; gapAhead(2) = 0
                """);
        // A part of each length is diverted where its middle comes to 100.
        int[][] lengthsAndFronts = {{10, 105}, {11, 105}, {12, 106}, {13, 106}, {399, 299}, {400, 300}};
        for (int[] row : lengthsAndFronts) {
            Sentences.terms("its middle is front - length / 2 (rounded down)", NEAR + """
                    addLane(100, 1, 1) = 0; route(7, 0) = -1
                    enter(LENGTH) = 0; move(50) = 0; read(7) = 0
                    nextLeaving() = MILLIMETERS
                    fateOf(0) = 10
                    move(MILLIMETERS) = 1
                    part(0, 1) = 10; part(0, 2) = FRONT
                    """.replace("LENGTH", "" + row[0]).replace("MILLIMETERS", "" + (row[1] - 50)).replace("FRONT", "" + row[1]));
        }
    }

    private static void aheadAndBehind() {
        Sentences.terms("the part ahead of a part is the one on the belt with the next greater front", """
                enter(10) = 0; move(30) = 0
                enter(12) = 1; move(40) = 0
                enter(14) = 2; move(50) = 0
                part(0, 2) = 120; part(1, 2) = 90; part(2, 2) = 50
                gapAhead(0) = -1; gapAhead(1) = 20; gapAhead(2) = 28
                takeOff(1) = 90
                gapAhead(2) = 60
                takeOff(0) = 120
                gapAhead(2) = -1
                """);
        String three = NEAR + """
                addLane(200, 10, 1) = 0; route(7, 0) = -1
                enter(10) = 0; move(20) = 0; enter(10) = 1
                """;
        Sentences.terms("the part behind it the one with the next smaller front", three + """
                # part 1 is near behind part 0, and part 2 is just far enough
                move(30) = 0; enter(10) = 2; read(7) = 0
                fateOf(0) = 5
                takeOff(1) = 30
                fateOf(0) = 10
                """);
        Sentences.terms("the part behind it the one with the next smaller front", three + """
                # part 2 is too near as well
                move(29) = 0; enter(10) = 2; move(1) = 0; read(7) = 0
                fateOf(0) = 5
                takeOff(1) = 30
                fateOf(0) = 5
                takeOff(2) = 1
                fateOf(0) = 10
                """);
    }

    private static void numberOfParts() {
        StringBuilder nineteen = new StringBuilder();
        for (int i = 0; i < 19; i++) {
            nineteen.append("enter(10) = ").append(i).append("; move(10) = 0\n");
        }
        Sentences.terms("At most 20 parts are on the belt at a time", nineteen + """
                total(2) = 19
                enter(10) = 19; total(2) = 20
                move(10) = 0
                enter(10) = ISE; total(2) = 20; total(1) = 20
                part(0, 2) = 200; part(19, 2) = 10; gapAhead(19) = 0; ranked(19) = 19; fateOf(19) = 1
                takeOff(10) = 100; total(2) = 19
                part(10, 1) = 9; part(10, 2) = 100
                undo() = 5
                part(10, 1) = 0; part(19, 2) = 10; total(2) = 20
                takeOff(19) = 10; part(19, 1) = 9; part(19, 2) = 10; total(2) = 19
                enter(10) = 20; total(2) = 20
                """);
        StringBuilder most = new StringBuilder();
        for (int i = 0; i < 299; i++) {
            most.append("enter(10) = ").append(i).append("; takeOff(").append(i).append(") = 0\n");
        }
        // This takes more than 512 calls; within them no more than 256 parts can enter.
        Sentences.terms("and at most 300 parts enter in all.", most + """
                total(1) = 299
                enter(10) = 299; total(1) = 300
                takeOff(299) = 0; total(2) = 0; total(5) = 300; part(299, 1) = 9; part(299, 0) = 10; part(300, 1) = IOOBE
                enter(10) = ISE; total(1) = 300
                entryIn() = 0
                undo() = 5; undo() = 4
                enter(20) = 299
                """);
    }

    private static void ranges() {
        Sentences.terms("There are 6 settings", """
                setting(-1) = IOOBE; set(-1, 100) = IOOBE
                setting(5) = 5; set(5, 6) = 5; setting(5) = 6
                setting(6) = IOOBE; set(6, 100) = IOOBE
                """);
        String[][] rows = {{"0: scanner", "300", "50", "1000"}, {"1: shadow", "20", "0", "200"},
            {"2: double distance", "50", "0", "500"}, {"3: gap", "40", "0", "500"}, {"4: end", "2000", "1000", "5000"},
            {"5: merge gap", "5", "0", "100"}};
        for (int i = 0; i < rows.length; i++) {
            String[] row = rows[i];
            String quote = row[0] + " (" + row[1] + "; " + row[2] + " to " + row[3] + ")";
            Sentences.terms("their initial values and ranges are: ", "setting(" + i + ") = " + row[1]);
            Sentences.terms(quote, """
                    setting(I) = INITIAL
                    set(I, BELOW) = IAE; setting(I) = INITIAL
                    set(I, LEAST) = INITIAL; setting(I) = LEAST
                    set(I, ABOVE) = IAE; setting(I) = LEAST
                    set(I, GREATEST) = LEAST; setting(I) = GREATEST
                    """.replace("INITIAL", row[1]).replace("BELOW", "" + (Integer.parseInt(row[2]) - 1))
                    .replace("LEAST", row[2]).replace("ABOVE", "" + (Integer.parseInt(row[3]) + 1))
                    .replace("GREATEST", row[3]).replace("I)", i + ")").replace("(I", "(" + i));
        }
    }

    private static void scannerAndShadowRanges() {
        int[] scanners = {50, 300, 1000};
        for (int scanner : scanners) {
            StringBuilder way = new StringBuilder();
            for (int left = scanner - 1; left > 0; left -= 500) {
                way.append("move(").append(Math.min(500, left)).append(") = 0\n");
            }
            Sentences.terms("0: scanner (300; 50 to 1000)", "set(0, " + scanner + ") = 300; enter(10) = 0\n" + way + """
                    read(7) = -1
                    move(1) = 0
                    read(7) = 0
                    """);
        }
        int[] shadows = {0, 1, 20, 200};
        for (int shadow : shadows) {
            // The tail comes to the scanner after 60 mm; the last millimeter of the shadow is shadow - 1 farther.
            Sentences.terms("1: shadow (20; 0 to 200)", "set(0, 50) = 300; set(1, " + shadow + ") = 20\n"
                    + "enter(10) = 0; move(" + (59 + shadow) + ") = 0\nread(7) = 0\nmove(1) = 0\nread(7) = -1");
        }
        Sentences.terms("1: shadow (20; 0 to 200)", """
                set(0, 50) = 300
                enter(10) = 0; move(79) = 0
                read(7) = 0
                move(1) = 0
                read(7) = -1
                """);
    }

    private static void doubleDistanceRange() {
        int[] distances = {0, 1, 50, 500};
        for (int distance : distances) {
            String within = distance == 0 ? "" : "move(" + distance + ") = 0\n";
            Sentences.terms("2: double distance (50; 0 to 500)", "set(0, 50) = 300; set(1, 200) = 20; set(2, " + distance
                    + ") = 50\nenter(400) = 0; move(50) = 0; read(7) = 0\n" + within + """
                    read(7) = 0; part(0, 7) = 1; part(0, 6) = 0
                    move(1) = 0
                    read(7) = 0; part(0, 7) = 1; part(0, 6) = 1
                    """);
        }
    }

    private static void gapRange() {
        int[] gaps = {0, 1, 40, 500};
        for (int gap : gaps) {
            // The merge gap 0 leaves room for a gap 0.
            String start = NEAR + "set(3, " + gap + ") = 40; set(5, 0) = 5\n"
                    + "addLane(900, 200, 1) = 0; route(7, 0) = -1\nenter(10) = 0; move(10) = 0\n";
            Sentences.terms("3: gap (40; 0 to 500)", start + wayToScanner(gap) + """
                    fateOf(1) = 10
                    """);
            if (gap > 0) {
                Sentences.terms("3: gap (40; 0 to 500)", start + wayToScanner(gap - 1) + """
                        fateOf(1) = 5
                        """);
            }
        }
    }

    /** Part 1 enters so far behind part 0, and is read. */
    private static String wayToScanner(int gap) {
        String way = gap == 0 ? "" : "move(" + gap + ") = 0\n";
        return way + "enter(10) = 1; move(50) = 0; read(7) = 1; gapAhead(1) = " + gap + "\n";
    }

    private static void endRange() {
        int[] ends = {1000, 2000, 5000};
        for (int end : ends) {
            Sentences.terms("4: end (2000; 1000 to 5000)", "set(4, " + end + ") = 2000; enter(10) = 0\n"
                    + "nextLeaving() = " + end + "\n" + (end / 500 - 1) + " times move(500) = 0\n" + """
                    move(499) = 0; total(2) = 1
                    move(1) = 1; total(2) = 0
                    part(0, 2) = END
                    """.replace("END", "" + end));
        }
    }

    private static void mergeGapRange() {
        int[] gaps = {0, 1, 5, 100};
        for (int gap : gaps) {
            String start = "set(5, " + gap + ") = 5; enter(10) = 0; move(" + (10 + gap);
            Sentences.terms("5: merge gap (5; 0 to 100)", start + ") = 0; enter(10) = 1\npart(0, 5) = 0; part(1, 5) = 0");
            if (gap > 0) {
                Sentences.terms("5: merge gap (5; 0 to 100)", start + ") = 0; undo() = 2; move(" + (9 + gap)
                        + ") = 0; enter(10) = 1\npart(0, 5) = 1; part(1, 5) = 1");
            }
        }
    }

    private static void canEnter() {
        String quote = "A part can enter if the tail of the part with the smallest front is at least 0.";
        Sentences.terms(quote, """
                # an empty belt
                enter(400) = 0
                """);
        Sentences.terms(quote, """
                enter(400) = 0
                enter(10) = ISE
                move(399) = 0
                # tail -1
                enter(10) = ISE; total(1) = 1
                move(1) = 0
                # tail 0
                enter(10) = 1
                # the tail of part 0 does not matter any more
                enter(10) = ISE
                move(9) = 0
                enter(10) = ISE
                takeOff(1) = 9
                # now it is the one with the smallest front
                enter(10) = 2
                takeOff(2) = 0; takeOff(0) = 409
                enter(10) = 3
                """);
    }

    private static void merged() {
        String quote = "If this tail is less than the merge gap, this part and the new one are merged.";
        Sentences.terms(quote, """
                enter(10) = 0; part(0, 5) = 0
                move(15) = 0
                # tail 5
                enter(10) = 1; part(0, 5) = 0; part(1, 5) = 0
                move(14) = 0
                # tail 4
                enter(10) = 2; part(0, 5) = 0; part(1, 5) = 1; part(2, 5) = 1
                total(12) = 2
                move(10) = 0
                # tail 0: part 2 is merged twice
                enter(10) = 3; part(2, 5) = 1; part(3, 5) = 1
                total(12) = 3
                takeOff(3) = 0; part(2, 5) = 1; part(3, 5) = 1
                """);
        Sentences.terms(quote, """
                # an empty belt: there is no such tail
                enter(10) = 0; part(0, 5) = 0
                takeOff(0) = 0
                enter(10) = 1; part(0, 5) = 0; part(1, 5) = 0
                """);
    }

    private static void atTheScanner() {
        String quote = "A part is at the scanner if its tail is less than the scanner and its front is at least the scanner.";
        Sentences.terms(quote, NEAR + """
                enter(30) = 0; move(49) = 0
                # front 49
                read(7) = -1
                move(1) = 0
                # front 50
                read(7) = 0
                move(29) = 0
                # tail 49
                read(8) = 0
                move(1) = 0
                # tail 50
                read(9) = -1
                """);
        Sentences.terms(quote, NEAR + """
                # the tail of one part and the front of the other are at 50
                set(5, 0) = 5
                enter(10) = 0; move(10) = 0; enter(10) = 1; move(50) = 0
                part(0, 2) = 60; part(1, 2) = 50
                read(7) = 1
                part(0, 3) = -1; part(1, 3) = 7
                """);
    }

    private static void shadow() {
        String quote = "A part casts a shadow if its tail is at least the scanner and less than scanner + shadow";
        Sentences.terms(quote, """
                set(0, 50) = 300; set(1, 30) = 20
                enter(10) = 0; move(40) = 0; enter(20) = 1
                move(19) = 0
                # tail 49, front 59: at the scanner
                part(0, 2) = 59
                read(7) = 0
                part(0, 3) = 7
                undo() = 5
                move(1) = 0
                # tail 50, and nothing is at the scanner
                read(7) = 0
                undo() = 5
                move(29) = 0
                # tail 79; part 1 has come to the scanner, but part 0 has no code yet
                part(0, 2) = 89; part(1, 2) = 49
                move(1) = 0
                # tail 80
                read(7) = 1
                part(0, 3) = -1; part(1, 3) = 7
                """);
        Sentences.terms(quote, """
                set(0, 50) = 300; set(1, 30) = 20
                enter(10) = 0; move(30) = 0; enter(20) = 1
                move(59) = 0
                # tail 79
                part(0, 2) = 89; part(1, 2) = 59
                read(7) = 0
                undo() = 5
                move(1) = 0
                # tail 80
                read(7) = 1
                """);
        Sentences.terms(quote, """
                # a shadow 0 is none
                set(0, 50) = 300; set(1, 0) = 20
                enter(10) = 0; move(60) = 0
                read(7) = -1
                """);
    }

    private static void smallestTail() {
        String quote = "if there are several such parts, only the one with the smallest tail casts a shadow.";
        String two = """
                set(0, 50) = 300; set(1, 200) = 20
                enter(10) = 0; move(20) = 0; enter(10) = 1; move(20) = 0; enter(10) = 2
                """;
        Sentences.terms(quote, two + """
                move(40) = 0
                part(0, 2) = 80; part(1, 2) = 60; part(2, 2) = 40
                # tails 70 and 50
                read(7) = 1
                # part 1 has a code now, and nothing is at the scanner
                read(8) = 1
                part(1, 4) = 1; part(0, 3) = -1
                """);
        Sentences.terms(quote, two + """
                move(40) = 0; read(7) = 1
                move(10) = 0
                part(2, 2) = 50
                # part 0 has no code, but it casts no shadow, and part 1 has one
                read(8) = 2
                part(0, 3) = -1; part(2, 3) = 8
                """);
        Sentences.terms(quote, two + """
                move(39) = 0
                part(1, 2) = 59
                # only part 0 has passed the scanner, and part 1 is at it
                read(7) = 0
                read(8) = 1
                """);
    }

    private static void owner() {
        String two = """
                set(0, 50) = 300; set(1, 30) = 20
                enter(10) = 0; move(20) = 0; enter(20) = 1; move(39) = 0
                """;
        Sentences.terms("it belongs to the part that casts a shadow if no code has been read for this part", two + """
                move(11) = 0
                # part 0 casts a shadow, part 1 is at the scanner
                part(0, 2) = 70; part(1, 2) = 50
                read(0) = 0
                part(0, 3) = 0; part(1, 3) = -1
                """);
        Sentences.terms("or no part is at the scanner", two + """
                read(5) = 0
                move(10) = 0
                # part 1 is 1 mm before the scanner
                part(1, 2) = 49
                read(5) = 0
                part(0, 7) = 1
                move(1) = 0
                read(5) = 1
                """);
        Sentences.terms("otherwise to the part at the scanner", two + """
                move(11) = 0
                read(0) = 0
                # a code 0 has been read as well as any other
                read(0) = 1
                read(6) = 1
                part(0, 4) = 0; part(0, 7) = 0; part(1, 3) = 0; part(1, 4) = 1
                """);
        Sentences.terms("if there is neither, it is stray.", """
                read(7) = -1; total(8) = 1
                set(0, 50) = 300; set(1, 30) = 20
                enter(10) = 0; move(49) = 0
                read(7) = -1; total(8) = 2
                move(41) = 0
                # tail 80
                read(7) = -1; total(8) = 3
                part(0, 3) = -1
                undo() = 5
                move(1) = 0
                takeOff(0) = 91
                read(7) = -1; total(8) = 3
                """);
        Sentences.terms("if there is neither, it is stray.", NEAR + """
                # a part that was taken off is nowhere
                enter(10) = 0; move(50) = 0; takeOff(0) = 50
                read(7) = -1; part(0, 3) = -1
                """);
    }

    private static void firstCode() {
        Sentences.terms("The first code that belongs to a part becomes the code of the part.", NEAR + """
                enter(10) = 0; move(49) = 0
                read(3) = -1; part(0, 3) = -1
                move(1) = 0
                read(0) = 0; part(0, 3) = 0; part(0, 4) = 0; part(0, 6) = 0; part(0, 7) = 0
                read(999) = 0; part(0, 3) = 0
                """);
    }

    private static void doubles() {
        String start = NEAR + "enter(400) = 0; move(50) = 0; read(7) = 0\n";
        Sentences.terms("is a double if the belt has moved by at most the double distance", start + """
                read(7) = 0; part(0, 7) = 1; part(0, 6) = 0
                move(50) = 0
                read(7) = 0; part(0, 7) = 2; part(0, 6) = 0
                total(9) = 2; total(10) = 0
                """);
        Sentences.terms("otherwise it is a repeat.", start + """
                move(51) = 0
                read(7) = 0; part(0, 7) = 0; part(0, 6) = 1
                total(9) = 0; total(10) = 1
                """);
        Sentences.terms("since the latest read that belonged to the part and was no double", start + """
                # a double does not count: 30 + 21 mm since the first read
                move(30) = 0
                read(7) = 0; part(0, 7) = 1
                move(20) = 0
                read(7) = 0; part(0, 7) = 2
                move(1) = 0
                read(7) = 0; part(0, 7) = 2; part(0, 6) = 1
                # a repeat counts
                move(50) = 0
                read(7) = 0; part(0, 7) = 3; part(0, 6) = 1
                move(1) = 0
                read(7) = 0; part(0, 7) = 3; part(0, 6) = 2
                """);
        Sentences.terms("since the latest read that belonged to the part", """
                # reads that belong to another part do not count
                set(0, 50) = 300; set(1, 200) = 20
                enter(10) = 0; move(50) = 0; read(7) = 0
                enter(10) = 1; move(50) = 0; read(7) = 1
                takeOff(1) = 50; move(1) = 0
                read(7) = 0; part(0, 6) = 1; part(0, 7) = 0
                """);
        Sentences.terms("(a read that differed counts, too)", start + """
                move(40) = 0
                read(8) = 0
                move(50) = 0
                read(7) = 0; part(0, 7) = 1; part(0, 6) = 0
                move(1) = 0
                read(7) = 0; part(0, 7) = 1; part(0, 6) = 1
                """);
    }

    private static void conflicting() {
        String start = NEAR + "enter(400) = 0; move(50) = 0; read(7) = 0; part(0, 4) = 0\n";
        Sentences.terms("Another code that differs from the code of the part makes the part conflicting (its code stays)", start + """
                read(8) = 0; part(0, 4) = 1; part(0, 3) = 7
                total(11) = 1
                read(8) = 0; part(0, 4) = 1; part(0, 3) = 7
                total(11) = 1
                """);
        Sentences.terms("such a read is neither a double nor a repeat.", start + """
                read(8) = 0; part(0, 6) = 0; part(0, 7) = 0
                read(8) = 0; part(0, 6) = 0; part(0, 7) = 0
                move(100) = 0
                read(8) = 0; part(0, 6) = 0; part(0, 7) = 0
                """);
    }
}
