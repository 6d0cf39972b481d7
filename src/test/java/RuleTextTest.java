/** Promises 25 to 28: the buffer, its error position, and the rule that is made of it. */
public final class RuleTextTest {
    public static void main(String[] arguments) {
        append();
        clear();
        errorPositions();
        load();
        conditions();
        nesting();
        Script.finish();
    }

    private static void append() {
        Script.check("promise 25", """
                append(31) = IAE
                append(127) = IAE
                append(-1) = IAE
                append(65585) = IAE
                append(-2147483648) = IAE
                total(14) = 0
                append(32) = 1
                append(126) = 2
                total(14) = 2
                total(13) = 0
                undo() = ISE
                clear() = 2
                type 12345678901234567890123456789012345678901234567890123456789012345678901234567890
                total(14) = 80
                append(48) = ISE
                append(127) = IAE
                total(14) = 80
                clear() = 80
                append(48) = 1
                """);
    }

    private static void clear() {
        Script.check("promise 26", """
                clear() = 0
                type 0x
                clear() = 2
                clear() = 0
                total(14) = 0
                errorPosition() = 0
                total(13) = 0
                """);
    }

    private static void errorPosition(String text, int want) {
        Script script = new Script(new PickScanner());
        for (int i = 0; i < text.length(); i++) {
            script.answer("append", text.charAt(i));
        }
        Script.due("promise 27: " + text, script.answer("errorPosition"), String.valueOf(want));
        Script.due("promise 27 leaves the text: " + text, script.answer("total", 14), String.valueOf(text.length()));
        String loaded = want == PickScanner.NONE ? String.valueOf(text.chars().filter(c -> c == '?').count()) : "ISE";
        Script.due("promise 28: " + text, script.answer("load"), loaded);
        Script.due("promise 28 empties the text: " + text, script.answer("total", 14),
                String.valueOf(want == PickScanner.NONE ? 0 : text.length()));
        Script.due("promise 28 saves a state: " + text, script.answer("total", 13), want == PickScanner.NONE ? "1" : "0");
    }

    private static void errorPositions() {
        String[] rules = {"0", "5", "x", "?c1;00", "?c999;0x", "?l000;x5", "?m1,0;01", "?m999,999;xx", "?m001,000;xx",
            "?m010,5;12", "?c1;?c2;345", "?c1;3?c2;45", "?c1;?l2;34?m5,6;01"};
        for (String rule : rules) {
            errorPosition(rule, PickScanner.NONE);
        }
        errorPosition("", 0);
        errorPosition("6", 0);
        errorPosition("9", 0);
        errorPosition("X", 0);
        errorPosition(" 0", 0);
        errorPosition("/", 0);
        errorPosition("c1;00", 0);
        errorPosition("00", 1);
        errorPosition("0 ", 1);
        errorPosition("x?", 1);
        errorPosition("?", 1);
        errorPosition("?0", 1);
        errorPosition("??", 1);
        errorPosition("?x", 1);
        errorPosition("?c", 2);
        errorPosition("?c;", 2);
        errorPosition("?cx", 2);
        errorPosition("?c-1;00", 2);
        errorPosition("?c:", 2);
        errorPosition("?c1", 3);
        errorPosition("?c1,", 3);
        errorPosition("?c12x", 4);
        errorPosition("?c123", 5);
        errorPosition("?c1234", 5);
        errorPosition("?c0000;00", 5);
        errorPosition("?c1;", 4);
        errorPosition("?c1;;", 4);
        errorPosition("?c1;6", 4);
        errorPosition("?c1;0", 5);
        errorPosition("?c1;06", 5);
        errorPosition("?c1;0x0", 6);
        errorPosition("?l", 2);
        errorPosition("?l12", 4);
        errorPosition("?l1234;", 5);
        errorPosition("?m", 2);
        errorPosition("?m,", 2);
        errorPosition("?m0", 3);
        errorPosition("?m0,", 3);
        errorPosition("?m0;", 3);
        errorPosition("?m00,1;00", 4);
        errorPosition("?m000,1;00", 5);
        errorPosition("?m0000,", 5);
        errorPosition("?m1", 3);
        errorPosition("?m1;", 3);
        errorPosition("?m1,", 4);
        errorPosition("?m1,;", 4);
        errorPosition("?m1,0", 5);
        errorPosition("?m1,0,", 5);
        errorPosition("?m1234", 5);
        errorPosition("?m1,1234;", 7);
        errorPosition("?m100,100;0", 11);
        errorPosition("?c1;?c2;00", 10);
        errorPosition("?c1;?c2;000x", 11);
        errorPosition("?c1 ;00", 3);
    }

    private static void load() {
        Script.check("promise 28", """
                load() = ISE
                addLane(100, 10, 1) = 0
                type 0
                append(48) = 2
                load() = ISE
                total(14) = 2
                total(13) = 1
                laneFor(0, 10) = -1
                clear() = 2
                type 0
                load() = 0
                total(13) = 2
                total(14) = 0
                laneFor(0, 10) = 0
                errorPosition() = 0
                append(120) = 1
                laneFor(0, 10) = 0
                errorPosition() = -1
                laneFor(0, 10) = 0
                clear() = 1
                type ?c1;??
                errorPosition() = 5
                load() = ISE
                laneFor(0, 10) = 0
                undo() = 1
                laneFor(0, 10) = -1
                """);
        String seventy = "?c001;?c002;?c003;?c004;?c005;?c006;00000?c007;?c008;?c009;?c010;00000";
        Script.check("promises 27 and 28: texts of 80 characters", "type " + seventy + """
                ?m007,001;
                append(48) = ISE
                errorPosition() = 80
                load() = ISE
                clear() = 80
                """ + "type " + seventy + """
                ?m07,1;000
                errorPosition() = 79
                load() = ISE
                clear() = 80
                """ + "type " + seventy + """
                ?m07,01;01
                errorPosition() = -1
                load() = 11
                total(14) = 0
                addLane(100, 10, 1) = 0
                addLane(100, 10, 1) = 1
                laneFor(0, 10) = 0
                laneFor(14, 10) = 1
                laneFor(15, 10) = 0
                """);
    }

    private static void conditions() {
        Script.check("promise 28: conditions", """
                addLane(100, 10, 1) = 0
                addLane(100, 10, 1) = 1
                type ?c007;01
                load() = 1
                laneFor(6, 10) = 0
                laneFor(7, 10) = 1
                laneFor(70, 10) = 1
                type ?c0;01
                load() = 1
                laneFor(0, 10) = 1
                type ?l399;01
                load() = 1
                laneFor(0, 398) = 0
                laneFor(999, 399) = 1
                type ?l999;01
                load() = 1
                laneFor(999, 400) = 0
                type ?m7,3;01
                load() = 1
                laneFor(3, 10) = 0
                laneFor(10, 10) = 0
                laneFor(11, 10) = 1
                laneFor(0, 10) = 1
                type ?m7,0;01
                load() = 1
                laneFor(0, 10) = 0
                laneFor(994, 10) = 0
                laneFor(993, 10) = 1
                type ?m7,7;01
                load() = 1
                laneFor(7, 10) = 1
                laneFor(0, 10) = 1
                type ?m999,0;01
                load() = 1
                laneFor(999, 10) = 0
                laneFor(998, 10) = 1
                type ?m1,0;x1
                load() = 1
                laneFor(5, 10) = -1
                """);
        Script.check("promise 28: the second rule behind a nested first one", """
                addLane(100, 10, 1) = 0
                addLane(100, 10, 1) = 1
                addLane(100, 10, 1) = 2
                addLane(100, 10, 1) = 3
                type ?c10;?l50;01?l70;23
                load() = 3
                laneFor(9, 49) = 0
                laneFor(9, 50) = 1
                laneFor(10, 69) = 2
                laneFor(10, 70) = 3
                type ?c10;?c5;?c2;0123
                load() = 3
                laneFor(1, 10) = 0
                laneFor(2, 10) = 1
                laneFor(5, 10) = 2
                laneFor(10, 10) = 3
                """);
        Script.check("promise 28: a lane that does not exist", """
                type 5
                load() = 0
                laneFor(0, 10) = -1
                addLane(100, 10, 1) = 0
                addLane(100, 10, 1) = 1
                addLane(100, 10, 1) = 2
                addLane(100, 10, 1) = 3
                addLane(100, 10, 1) = 4
                laneFor(0, 10) = -1
                addLane(100, 10, 1) = 5
                laneFor(0, 10) = 5
                """);
    }

    private static void nesting() {
        errorPosition("?c1;?c1;?c1;?c1;?c1;?c1;0000000", PickScanner.NONE);
        errorPosition("?c1;?c1;?c1;?c1;?c1;?c1;?c1;00000000", 24);
        errorPosition("?c1;?c1;?c1;?c1;?c1;?c1;0?", 25);
        errorPosition("?c1;0?c1;0?c1;0?c1;0?c1;0?c1;00", PickScanner.NONE);
        errorPosition("?c1;0?c1;0?c1;0?c1;0?c1;0?c1;0?c1;00", 30);
        errorPosition("?c1;?c1;?c1;?c1;?c1;?c1;00?c1;00?c1;00000", PickScanner.NONE);
        errorPosition("?c1;?c1;?c1;?c1;?c1;?c1;00?c1;0?", 31);
    }
}
