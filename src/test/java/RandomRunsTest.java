import java.util.Arrays;

/**
 * All promises: long runs of chance calls, always the same ones, answered alike by PickScanner and by
 * NaiveScanner. Arguments: the number of runs, and the first seed.
 */
public final class RandomRunsTest {
    private static final int CALLS = 512;
    private static final String[] RULE_PIECES = {"?", "c", "l", "m", ",", ";", "0", "1", "2", "3", "5", "6", "9", "x", " ", "00"};

    private final Script real = new Script(new PickScanner());
    private final Script naive = new Script(new NaiveScanner());
    private final StringBuilder history = new StringBuilder();
    private long seed;
    private int calls;
    private boolean differs;

    /** What makes this run another one than the next: how far apart, how long, how many codes. */
    private final int codes;
    private final int greatestLength;
    private final int greatestMove;
    private final int scanner;
    /** Of 1000 acts, so many are on the belt, and so many of the others write a rule. */
    private final int onBelt;
    private final int onRules;

    private RandomRunsTest(long seed) {
        this.seed = seed * 1000003 + 17;
        codes = 1 + chance(5);
        greatestLength = chance(3) == 0 ? 400 : 10 + chance(60);
        greatestMove = chance(4) == 0 ? 500 : 5 + chance(80);
        scanner = chance(4) == 0 ? 300 : 50 + chance(150);
        onBelt = chance(4) == 0 ? 500 : 850;
        onRules = chance(4) == 0 ? 50 : 2;
    }

    public static void main(String[] arguments) {
        int runs = arguments.length > 0 ? Integer.parseInt(arguments[0]) : 400;
        int first = arguments.length > 1 ? Integer.parseInt(arguments[1]) : 1;
        int[] fates = new int[16];
        for (int seed = first; seed < first + runs; seed++) {
            RandomRunsTest run = new RandomRunsTest(seed);
            run.play();
            run.countFates(fates);
        }
        System.out.println("fates of all parts: " + Arrays.toString(fates));
        if (runs >= 400) {
            for (int fate : new int[] {0, 1, 2, 3, 4, 5, 6, 9, 10, 11, 12}) {
                Script.due("parts with the fate " + fate + " in all runs", fates[fate] > 0 ? "some" : "none", "some");
            }
        }
        Script.finish();
    }

    private int chance(int bound) {
        seed = seed * 6364136223846793005L + 1442695040888963407L;
        return (int) Math.floorMod(seed >>> 33, (long) bound);
    }

    private int between(int least, int greatest) {
        return least + chance(greatest - least + 1);
    }

    private String same(String name, int... numbers) {
        calls++;
        String want = naive.answer(name, numbers);
        String got = real.answer(name, numbers);
        history.append(name).append(Arrays.toString(numbers)).append(" -> ").append(want).append('\n');
        if (!got.equals(want) && !differs) {
            System.out.println("A run that differs:\n" + history);
        }
        differs = differs || !got.equals(want);
        Script.due(name + Arrays.toString(numbers), got, want);
        return want;
    }

    private void play() {
        setUp();
        while (calls < CALLS && !differs) {
            if (chance(1000) < onBelt) {
                useBelt();
            } else if (chance(1000) < onRules) {
                writeRule();
            } else {
                lookOrChange(chance(10));
            }
        }
    }

    private void lookOrChange(int kind) {
        if (kind < 3) {
            look();
        } else if (kind < 6) {
            foresee();
        } else if (kind < 8) {
            change();
        } else {
            tryWrong();
        }
    }

    private void countFates(int[] fates) {
        int entered = Integer.parseInt(naive.answer("total", 1));
        for (int part = 0; part < entered; part++) {
            fates[Integer.parseInt(naive.answer("part", part, 1))]++;
        }
    }

    private void setUp() {
        same("set", 0, scanner);
        same("set", 1, chance(3) == 0 ? 20 : chance(201));
        same("set", 3, chance(3) == 0 ? 40 : chance(40));
        same("set", 4, 1000 + chance(3) * chance(2000));
        same("set", 5, chance(2) == 0 ? 5 : chance(101));
        if (chance(2) == 0) {
            same("set", 2, chance(100));
        }
        int lanes = 1 + chance(6);
        for (int lane = 0; lane < lanes; lane++) {
            addLane();
        }
        for (int code = 0; code < codes; code++) {
            same("route", code, chance(lanes));
        }
    }

    private void addLane() {
        int position = chance(3) == 0 ? between(1, 1200) : between(scanner / 2, scanner + 200);
        same("addLane", Math.max(1, position), chance(2) == 0 ? between(1, 200) : between(1, 20), between(1, 3));
    }

    private void useBelt() {
        int kind = chance(100);
        if (kind < 25) {
            same("enter", between(10, greatestLength));
        } else if (kind < 65) {
            same("move", between(1, chance(10) == 0 ? 300 : greatestMove));
        } else if (kind < 95) {
            same("read", chance(20) == 0 ? chance(1000) : chance(codes));
        } else if (kind < 97) {
            same("takeOff", somePart());
        } else {
            int times = 1 + chance(7);
            for (int i = 0; i < times; i++) {
                same("undo");
            }
        }
    }

    /** Mostly one of the latest parts. */
    private int somePart() {
        int entered = Integer.parseInt(naive.answer("total", 1));
        return chance(5) == 0 ? chance(entered + 1) : Math.max(0, entered - 1 - chance(8));
    }

    private void look() {
        int part = somePart();
        switch (chance(9)) {
            case 0:
                for (int property = 0; property < 10; property++) {
                    same("part", part, property);
                }
                break;
            case 1:
                for (int property = 0; property < 6; property++) {
                    same("lane", chance(6), property);
                }
                break;
            case 2:
                for (int property = 0; property < 15; property++) {
                    same("total", property);
                }
                break;
            case 3:
                for (int reason = 1; reason < 7; reason++) {
                    same("lost", reason);
                }
                break;
            case 4:
                same("routeAt", chance(8));
                same("setting", chance(6));
                break;
            case 5:
                same("gapAhead", part);
                break;
            case 6:
                for (int rank = 0; rank < 4; rank++) {
                    same("ranked", rank);
                }
                break;
            case 7:
                same("share");
                break;
            default:
                same("laneFor", chance(codes + 4), between(10, 400));
                break;
        }
    }

    private void foresee() {
        same("fateOf", somePart());
        same("entryIn");
        same("nextLeaving");
    }

    private void change() {
        switch (chance(6)) {
            case 0:
                addLane();
                break;
            case 1:
            case 2:
                same("emptyLane", chance(4));
                break;
            case 3:
                same("route", chance(3) == 0 ? chance(1000) : chance(codes), chance(6));
                break;
            case 4:
                same("removeRoute", chance(codes + 1));
                break;
            default:
                same("set", chance(6), chance(500));
                break;
        }
    }

    private int edge() {
        int[] edges = {-2147483648, -1, 0, 1, 5, 6, 7, 9, 10, 14, 15, 31, 127, 200, 201, 400, 401, 500, 501, 999, 1000, 5000, 2147483647};
        return edges[chance(edges.length)];
    }

    private void tryWrong() {
        String[] withOne = {"emptyLane", "removeRoute", "enter", "read", "move", "takeOff", "total", "lost", "setting",
            "routeAt", "gapAhead", "ranked", "fateOf", "append"};
        String[] withTwo = {"set", "route", "part", "lane", "laneFor"};
        switch (chance(3)) {
            case 0:
                same(withOne[chance(withOne.length)], edge());
                break;
            case 1:
                same(withTwo[chance(withTwo.length)], edge(), edge());
                break;
            default:
                same("addLane", edge(), edge(), edge());
                break;
        }
    }

    private void writeRule() {
        same("clear");
        StringBuilder text = new StringBuilder();
        addRule(text, 0, 1 + chance(7));
        if (chance(3) == 0 && text.length() > 0) {
            int at = chance(text.length());
            text.replace(at, at + chance(2), RULE_PIECES[chance(RULE_PIECES.length)]);
        }
        for (int i = 0; i < text.length() && i < 82; i++) {
            same("append", text.charAt(i));
            if (chance(10) == 0) {
                same("errorPosition");
            }
        }
        same("errorPosition");
        same("load");
        same("laneFor", chance(codes + 4), between(10, 400));
        same("laneFor", chance(1000), between(10, 400));
    }

    private void addRule(StringBuilder text, int depth, int deepest) {
        if (depth >= deepest || chance(4) == 0) {
            text.append("0123450123x".charAt(chance(11)));
            return;
        }
        text.append('?');
        int kind = chance(3);
        if (kind == 0) {
            text.append('c').append(chance(2) == 0 ? chance(10) : chance(1000));
        } else if (kind == 1) {
            text.append('l').append(chance(500));
        } else {
            text.append('m').append(chance(12)).append(',').append(chance(6));
        }
        text.append(';');
        addRule(text, depth + 1, deepest);
        addRule(text, depth + 1, deepest);
    }
}
