import java.util.ArrayList;
import java.util.Arrays;
import java.util.List;

/**
 * Calls that throw, and calls that only tell something, change nothing: not what can be seen, and not
 * a saved state either, which all undos one after the other bring to light.
 */
public final class UnchangedTest {
    private static final String[] ONLY_TELLING = {"part", "lane", "total", "lost", "setting", "routeAt", "gapAhead", "ranked",
        "share", "fateOf", "entryIn", "nextLeaving", "laneFor", "errorPosition"};
    private static final String[] WITHOUT_ARGUMENT = {"undo", "share", "entryIn", "nextLeaving", "errorPosition", "load"};
    private static final String[] WITH_ONE = {"emptyLane", "removeRoute", "enter", "read", "move", "takeOff", "total", "lost",
        "setting", "routeAt", "gapAhead", "ranked", "fateOf", "append"};
    private static final String[] WITH_TWO = {"set", "route", "part", "lane", "laneFor"};
    private static final int[] EDGES = {-2147483648, -1, 0, 1, 2, 6, 9, 10, 15, 127, 401, 501, 1000, 2147483647};

    private static final String RICH = """
            set(0, 50) = 300; set(1, 30) = 20; set(3, 15) = 40
            addLane(60, 20, 1) = 0; addLane(300, 1, 1) = 1; route(7, 0) = -1; route(8, 1) = -1
            type ?c9;01
            load() = 1
            enter(10) = 0; move(50) = 0; read(7) = 0; move(30) = 1
            enter(10) = 1; move(20) = 0; takeOff(1) = 20; enter(11) = 2; move(50) = 0; read(7) = 2
            """;
    private static final String[] PREPARATIONS = {
        "",
        "addLane(60, 20, 1) = 0; route(7, 0) = -1; enter(400) = 0",
        RICH + "move(14) = 0; enter(100) = 3; move(3) = 0; read(8) = 2; part(2, 9) = 6",
        RICH + "enter(12) = 3; read(3) = 2; emptyLane(0) = 1\ntype ?m0"};

    public static void main(String[] arguments) {
        int unchanged = 0;
        for (String preparation : PREPARATIONS) {
            List<String> want = statesFrom(prepared(preparation));
            for (String name : WITHOUT_ARGUMENT) {
                unchanged += compare(preparation, want, name);
            }
            for (int edge : EDGES) {
                for (String name : WITH_ONE) {
                    unchanged += compare(preparation, want, name, edge);
                }
                for (String name : WITH_TWO) {
                    unchanged += compare(preparation, want, name, edge, 0);
                    unchanged += compare(preparation, want, name, 0, edge);
                }
                unchanged += compare(preparation, want, "addLane", edge, 1, 1);
            }
        }
        System.out.println(unchanged + " calls that change nothing");
        Script.finish();
    }

    private static Script prepared(String preparation) {
        Script script = new Script(new PickScanner());
        script.runLines("preparation", preparation);
        return script;
    }

    /** 1 if the call is one that changes nothing, 0 otherwise. */
    private static int compare(String preparation, List<String> want, String name, int... arguments) {
        Script script = prepared(preparation);
        String answer = script.answer(name, arguments);
        if (!List.of(ONLY_TELLING).contains(name) && !answer.matches("[A-Z]+")) {
            return 0;
        }
        List<String> got = statesFrom(script);
        String difference = got.size() == want.size() ? "none" : "the number of states";
        for (int i = 0; i < got.size() && i < want.size(); i++) {
            if (difference.equals("none")) {
                difference = Fingerprint.difference(want.get(i), got.get(i));
            }
        }
        Script.due(name + Arrays.toString(arguments) + " after " + preparation + " changes", difference, "none");
        return 1;
    }

    /** What can be seen now, and after each undo that is possible. */
    private static List<String> statesFrom(Script script) {
        List<String> states = new ArrayList<>();
        states.add(Fingerprint.of(script));
        for (int i = 0; i < 7 && !script.answer("undo").equals("ISE"); i++) {
            states.add(Fingerprint.of(script));
        }
        return states;
    }
}
