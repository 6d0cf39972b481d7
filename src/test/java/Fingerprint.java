/** All that the calls which change nothing tell of a scanner, in one text; undo alone tells more. */
final class Fingerprint {
    private static final int[] CODES = {0, 1, 2, 3, 4, 5, 6, 7, 8, 9, 10, 11, 14, 42, 100, 499, 500, 998, 999};
    private static final int[] LENGTHS = {10, 11, 49, 50, 100, 400};

    private Fingerprint() {
    }

    static String of(Script script) {
        StringBuilder all = new StringBuilder();
        for (int property = 0; property < 15; property++) {
            add(all, script, "total", property);
        }
        int parts = Integer.parseInt(script.answer("total", 1));
        for (int part = 0; part < parts; part++) {
            addPart(all, script, part);
        }
        int lanes = Integer.parseInt(script.answer("total", 6));
        for (int lane = 0; lane < lanes; lane++) {
            for (int property = 0; property < 6; property++) {
                add(all, script, "lane", lane, property);
            }
        }
        for (int i = 0; i < 6; i++) {
            add(all, script, "setting", i);
            add(all, script, "lost", i + 1);
        }
        int routes = Integer.parseInt(script.answer("total", 7));
        for (int index = 0; index < routes; index++) {
            add(all, script, "routeAt", index);
        }
        for (int rank = 0; rank <= 20; rank++) {
            add(all, script, "ranked", rank);
        }
        addRule(all, script);
        add(all, script, "share");
        add(all, script, "entryIn");
        add(all, script, "nextLeaving");
        add(all, script, "errorPosition");
        return all.toString();
    }

    /** The first thing that two fingerprints tell differently; "none" if they tell the same. */
    static String difference(String before, String after) {
        String[] was = before.split("; ");
        String[] is = after.split("; ");
        for (int i = 0; i < was.length && i < is.length; i++) {
            if (!was[i].equals(is[i])) {
                return was[i] + " before, " + is[i] + " now";
            }
        }
        return was.length == is.length ? "none" : "one tells more than the other";
    }

    private static void addPart(StringBuilder all, Script script, int part) {
        for (int property = 0; property < 10; property++) {
            add(all, script, "part", part, property);
        }
        if (script.answer("part", part, 1).equals("0")) {
            add(all, script, "gapAhead", part);
            add(all, script, "fateOf", part);
        }
    }

    private static void addRule(StringBuilder all, Script script) {
        for (int code : CODES) {
            for (int length : LENGTHS) {
                add(all, script, "laneFor", code, length);
            }
        }
    }

    private static void add(StringBuilder all, Script script, String name, int... arguments) {
        all.append(name);
        for (int argument : arguments) {
            all.append(' ').append(argument);
        }
        all.append(" = ").append(script.answer(name, arguments)).append("; ");
    }
}
