import java.lang.reflect.InvocationTargetException;
import java.lang.reflect.Method;
import java.util.regex.Matcher;
import java.util.regex.Pattern;

/**
 * Runs written calls on a new PickScanner and compares the answers. A line of a script is one of
 * <pre>
 *   call(1, 2) = answer          the answer as a number, or IAE, ISE or IOOBE for an exception
 *   3 times call(1) = answer     the same call several times, each with this answer
 *   type ?c5;0x                  appends the characters one by one to the empty buffer
 *   # a remark
 * </pre>
 */
final class Script {
    private static final Pattern CALL = Pattern.compile("(?:(\\d+) times )?(\\w+)\\(([^)]*)\\) = (\\S+)");
    private static int wrong = 0;
    private static int right = 0;

    private final Object scanner;

    Script(Object scanner) {
        this.scanner = scanner;
    }

    static void check(String title, String lines) {
        Script script = new Script(new PickScanner());
        int number = 0;
        for (String line : lines.split("\n")) {
            number++;
            script.runLine(title + ", line " + number, line.trim());
        }
    }

    /** Ends the test: with exit code 1 if an answer was wrong. */
    static void finish() {
        System.out.println(right + " answers right, " + wrong + " wrong");
        if (wrong > 0 || right == 0) {
            System.exit(1);
        }
    }

    static void due(String where, String got, String want) {
        if (got.equals(want)) {
            right++;
        } else {
            wrong++;
            System.out.println(where + ": answered " + got + ", due is " + want);
        }
    }

    /** What a call answers: its value, or the name of the exception that it throws. */
    String answer(String name, int... arguments) {
        Class<?>[] types = new Class<?>[arguments.length];
        Object[] values = new Object[arguments.length];
        for (int i = 0; i < arguments.length; i++) {
            types[i] = int.class;
            values[i] = arguments[i];
        }
        try {
            Method method = scanner.getClass().getDeclaredMethod(name, types);
            method.setAccessible(true);
            return String.valueOf(method.invoke(scanner, values));
        } catch (InvocationTargetException thrown) {
            return shortName(thrown.getCause());
        } catch (ReflectiveOperationException missing) {
            throw new IllegalStateException("no such call: " + name, missing);
        }
    }

    private static String shortName(Throwable thrown) {
        if (thrown.getClass() == IllegalArgumentException.class) {
            return "IAE";
        }
        if (thrown.getClass() == IllegalStateException.class) {
            return "ISE";
        }
        if (thrown.getClass() == IndexOutOfBoundsException.class) {
            return "IOOBE";
        }
        return thrown.toString();
    }

    private void runLine(String where, String line) {
        if (line.isEmpty() || line.startsWith("#")) {
            return;
        }
        if (line.startsWith("type ")) {
            type(where, line.substring("type ".length()));
            return;
        }
        Matcher call = CALL.matcher(line);
        if (!call.matches()) {
            throw new IllegalArgumentException(where + ": not a line of a script: " + line);
        }
        int times = call.group(1) == null ? 1 : Integer.parseInt(call.group(1));
        for (int i = 0; i < times; i++) {
            due(where + ": " + line, answer(call.group(2), numbers(call.group(3))), call.group(4));
        }
    }

    private void type(String where, String text) {
        for (int i = 0; i < text.length(); i++) {
            due(where + ": append " + text.charAt(i), answer("append", text.charAt(i)), String.valueOf(i + 1));
        }
    }

    private static int[] numbers(String list) {
        if (list.isBlank()) {
            return new int[0];
        }
        String[] words = list.split(",");
        int[] numbers = new int[words.length];
        for (int i = 0; i < words.length; i++) {
            numbers[i] = Integer.parseInt(words[i].trim());
        }
        return numbers;
    }
}
