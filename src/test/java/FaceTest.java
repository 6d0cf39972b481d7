import java.io.IOException;
import java.lang.reflect.Constructor;
import java.lang.reflect.Field;
import java.lang.reflect.Method;
import java.lang.reflect.Modifier;
import java.nio.file.Files;
import java.nio.file.Path;
import java.util.Arrays;
import java.util.TreeSet;
import java.util.regex.Matcher;
import java.util.regex.Pattern;

/** The public face as the document lists it, and the rules of LANGUAGE.md that a test can see. Runs in the project's folder. */
public final class FaceTest {
    private static final String[] METHODS = {
        "int set(int,int) IndexOutOfBoundsException,IllegalArgumentException,IllegalStateException",
        "int addLane(int,int,int) IllegalArgumentException,IllegalStateException",
        "int emptyLane(int) IndexOutOfBoundsException",
        "int route(int,int) IllegalArgumentException,IndexOutOfBoundsException,IllegalStateException",
        "int removeRoute(int) IllegalArgumentException,IllegalStateException",
        "int enter(int) IllegalArgumentException,IllegalStateException",
        "int read(int) IllegalArgumentException",
        "int move(int) IllegalArgumentException,IllegalStateException",
        "int takeOff(int) IndexOutOfBoundsException,IllegalStateException",
        "int undo() IllegalStateException",
        "int part(int,int) IndexOutOfBoundsException,IllegalArgumentException",
        "int lane(int,int) IndexOutOfBoundsException,IllegalArgumentException",
        "int total(int) IllegalArgumentException",
        "int lost(int) IllegalArgumentException",
        "int setting(int) IndexOutOfBoundsException",
        "int routeAt(int) IllegalArgumentException",
        "int gapAhead(int) IndexOutOfBoundsException,IllegalStateException",
        "int ranked(int) IllegalArgumentException",
        "double share() ",
        "int fateOf(int) IndexOutOfBoundsException",
        "int entryIn() ",
        "int nextLeaving() ",
        "int laneFor(int,int) IllegalArgumentException",
        "int append(int) IllegalArgumentException,IllegalStateException",
        "int clear() ",
        "int errorPosition() ",
        "int load() IllegalStateException"};

    public static void main(String[] arguments) throws IOException {
        face();
        names();
        words();
        Script.finish();
    }

    private static void face() {
        TreeSet<String> found = new TreeSet<>();
        for (Method method : PickScanner.class.getDeclaredMethods()) {
            if (!Modifier.isPrivate(method.getModifiers())) {
                found.add((method.getModifiers() == Modifier.PUBLIC ? "" : "not just public ") + method.getReturnType()
                        + " " + method.getName() + "(" + names(method.getParameterTypes()) + ") "
                        + names(method.getExceptionTypes()));
            }
        }
        Script.due("the methods", found.toString(), new TreeSet<>(Arrays.asList(METHODS)).toString());
        StringBuilder fields = new StringBuilder();
        for (Field field : PickScanner.class.getDeclaredFields()) {
            if (!Modifier.isPrivate(field.getModifiers())) {
                fields.append(field);
            }
        }
        Script.due("the fields", fields.toString(), "public static final int PickScanner.NONE");
        StringBuilder constructors = new StringBuilder();
        for (Constructor<?> constructor : PickScanner.class.getDeclaredConstructors()) {
            constructors.append(constructor);
        }
        Script.due("the constructors", constructors.toString(), "public PickScanner()");
        Script.due("the class", Modifier.toString(PickScanner.class.getModifiers()), "public final");
    }

    private static String names(Class<?>[] types) {
        StringBuilder names = new StringBuilder();
        for (Class<?> type : types) {
            names.append(names.length() > 0 ? "," : "").append(type.getSimpleName());
        }
        return names.toString();
    }

    /** Rules 1, 2 and 11: no other method bears a public name; few classes, with few fields. */
    private static void names() {
        TreeSet<String> taken = new TreeSet<>();
        for (String method : METHODS) {
            taken.add(method.substring(method.indexOf(' ') + 1, method.indexOf('(')));
        }
        Class<?>[] inside = PickScanner.class.getDeclaredClasses();
        Script.due("at most twelve classes", inside.length < 12 ? "yes" : "no", "yes");
        for (Class<?> type : inside) {
            Script.due(type + " is static", Modifier.isStatic(type.getModifiers()) ? "yes" : "no", "yes");
            for (Method method : type.getDeclaredMethods()) {
                Script.due(method + " bears a public name", taken.contains(method.getName()) ? "yes" : "no", "no");
            }
            long fields = Arrays.stream(type.getDeclaredFields()).filter(field -> !Modifier.isStatic(field.getModifiers())).count();
            Script.due(type + " has at most twenty fields", fields <= 20 ? "yes" : "no", "yes");
        }
        for (Method method : PickScanner.class.getDeclaredMethods()) {
            if (Modifier.isPrivate(method.getModifiers())) {
                Script.due(method + " bears a public name", taken.contains(method.getName()) ? "yes" : "no", "no");
            }
        }
    }

    /** Rules 2 to 6, 12 and 13: words that do not stand in the file, and signs from 1 to 127 alone. */
    private static void words() throws IOException {
        String source = Files.readString(Path.of("src/main/java/PickScanner.java"));
        String code = source.replaceAll("(?s)/\\*.*?\\*/", "").replaceAll("//[^\n]*", "");
        String[] forbidden = {"package ", "import ", "catch", "finally", "synchronized", "assert ", "->", "::", "instanceof",
            "System\\.(?!arraycopy)", "Math\\.\\w+Exact", "Math\\.random", "static \\{", "Throwable", "MAX_VALUE", "@",
            "equals", "hashCode", "toString", "\" \\+", "\\+ \""};
        for (String word : forbidden) {
            Matcher matcher = Pattern.compile(word).matcher(code);
            Script.due("the file has " + word, matcher.find() ? "yes" : "no", "no");
        }
        Matcher thrown = Pattern.compile("throw\\s+(?!new (IllegalStateException|IllegalArgumentException|IndexOutOfBoundsException)"
                + "\\(\"[^\"]*\"\\);)").matcher(code);
        Script.due("another throw", thrown.find() ? "yes" : "no", "no");
        Script.due("signs from 1 to 127", source.chars().allMatch(sign -> sign >= 1 && sign <= 127) ? "yes" : "no", "yes");
    }
}
