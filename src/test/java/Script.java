import java.lang.reflect.InvocationTargetException;
import java.lang.reflect.Method;
import java.util.Arrays;
import java.util.HashMap;
import java.util.Map;
import java.util.regex.Matcher;
import java.util.regex.Pattern;

/**
 * Runs written calls on a new PickScanner and compares the answers; then once more on NaiveScanner,
 * so that a script and the reference program can't disagree unseen. A line of a script is one of
 * <pre>
 *   call(1, 2) = answer          the answer as a number, or IAE, ISE or IOOBE for an exception
 *   3 times call(1) = answer     the same call several times, each with this answer
 *   a() = 1; b(2) = 3            several calls
 *   type ?c5;0x                  appends the characters one by one to the empty buffer
 *   # a remark
 * </pre>
 * All that can be seen of the object is compared around each call that throws: it changes nothing.
 */
final class Script {
    private static final Pattern CALL = Pattern.compile("(?:(\\d+) times )?(\\w+)\\(([^)]*)\\) = (\\S+)");
    private static int wrong = 0;
    private static int right = 0;

    private final Object scanner;
    private final Map<String, Method> methods = new HashMap<>();

    Script(Object scanner) {
        this.scanner = scanner;
    }

    static void check(String title, String lines) {
        new Script(new PickScanner()).runLines(title, lines);
        new Script(new NaiveScanner()).runLines("NaiveScanner, " + title, lines);
    }

    void runLines(String title, String lines) {
        int number = 0;
        for (String line : lines.split("\n")) {
            number++;
            runLine(title + ", line " + number, line.trim());
        }
    }

    /** Ends the test: with exit code 1 if an answer was wrong. */
    static void finish() {
        System.out.println(right + " answers right, " + wrong + " wrong");
        if (wrong > 0 || right == 0) {
            System.exit(1);
        }
    }

    static void due(String where, String got, String want) {
        if (got.equals(want)) {
            right++;
        } else {
            wrong++;
            System.out.println(where + ": answered " + got + ", due is " + want);
        }
    }

    /** What a call answers: its value, or the name of the exception that it throws. */
    String answer(String name, int... arguments) {
        Object[] values = new Object[arguments.length];
        for (int i = 0; i < arguments.length; i++) {
            values[i] = arguments[i];
        }
        try {
            return String.valueOf(method(name, arguments.length).invoke(scanner, values));
        } catch (InvocationTargetException thrown) {
            return shortName(thrown.getCause());
        } catch (ReflectiveOperationException missing) {
            throw new IllegalStateException("no such call: " + name, missing);
        }
    }

    private Method method(String name, int count) throws ReflectiveOperationException {
        Method method = methods.get(name);
        if (method == null) {
            Class<?>[] types = new Class<?>[count];
            Arrays.fill(types, int.class);
            method = scanner.getClass().getDeclaredMethod(name, types);
            method.setAccessible(true);
            methods.put(name, method);
        }
        return method;
    }

    private static String shortName(Throwable thrown) {
        if (thrown.getClass() == IllegalArgumentException.class) {
            return "IAE";
        }
        if (thrown.getClass() == IllegalStateException.class) {
            return "ISE";
        }
        if (thrown.getClass() == IndexOutOfBoundsException.class) {
            return "IOOBE";
        }
        return thrown.toString();
    }

    private void runLine(String where, String line) {
        if (line.isEmpty() || line.startsWith("#")) {
            return;
        }
        if (line.startsWith("type ")) {
            type(where, line.substring("type ".length()));
            return;
        }
        for (String call : line.split(";")) {
            runCall(where, call.trim());
        }
    }

    private void runCall(String where, String text) {
        Matcher call = CALL.matcher(text);
        if (!call.matches()) {
            throw new IllegalArgumentException(where + ": not a call of a script: " + text);
        }
        int times = call.group(1) == null ? 1 : Integer.parseInt(call.group(1));
        boolean throwing = call.group(4).matches("[A-Z]+");
        String before = throwing ? Fingerprint.of(this) : "";
        for (int i = 0; i < times; i++) {
            due(where + ": " + text, answer(call.group(2), numbers(call.group(3))), call.group(4));
        }
        if (throwing) {
            due(where + ": changed by " + text, Fingerprint.difference(before, Fingerprint.of(this)), "none");
        }
    }

    private void type(String where, String text) {
        for (int i = 0; i < text.length(); i++) {
            due(where + ": append " + text.charAt(i), answer("append", text.charAt(i)), String.valueOf(i + 1));
        }
    }

    private static int[] numbers(String list) {
        if (list.isBlank()) {
            return new int[0];
        }
        String[] words = list.split(",");
        int[] numbers = new int[words.length];
        for (int i = 0; i < words.length; i++) {
            numbers[i] = Integer.parseInt(words[i].trim());
        }
        return numbers;
    }
}
