import java.io.IOException;
import java.lang.reflect.Method;
import java.lang.reflect.Modifier;
import java.nio.file.Files;
import java.nio.file.Path;
import java.util.ArrayList;
import java.util.List;
import java.util.regex.Matcher;
import java.util.regex.Pattern;
import java.util.stream.Stream;

/** Follows README.md word for word. Runs in the project's folder, after .ci/run has compiled all. */
public final class ReadmeTest {
    private static final Path README = Path.of("README.md");
    private static final Path TESTS = Path.of("src/test/java");
    private static final Pattern BLOCK = Pattern.compile("(?ms)^```(\\w+)\n(.*?)^```$");
    private static final Pattern SAVED_AS = Pattern.compile("Save this program as `([^`]+)`");
    private static final Pattern QUOTED = Pattern.compile("`([^`\n]+)`");
    private static final Pattern FILE = Pattern.compile("(?:\\.|\\w)[\\w./]*/[\\w./]*");
    private static final Pattern CALL = Pattern.compile("(\\w+)\\(([a-z, ]*)\\)");

    public static void main(String[] arguments) throws IOException, InterruptedException {
        String readme = Files.readString(README);
        followBlocks(readme);
        String prose = BLOCK.matcher(readme).replaceAll("");
        namesAllCalls(prose);
        namesAllTests(prose);
        namesFilesThatAreThere(prose);
        Script.finish();
    }

    private static void followBlocks(String readme) throws IOException, InterruptedException {
        int programs = 0;
        int commands = 0;
        int outputs = 0;
        String printed = "";
        Matcher block = BLOCK.matcher(readme);
        while (block.find()) {
            String text = block.group(2);
            switch (block.group(1)) {
                case "java":
                    save(readme, text);
                    programs++;
                    break;
                case "sh":
                    printed = run(text);
                    commands++;
                    break;
                case "text":
                    Script.due("what the README says is printed", printed, text);
                    outputs++;
                    break;
                default:
                    Script.due("a block of the README", block.group(1), "java, sh or text");
                    break;
            }
        }
        Script.due("programs, commands and outputs", programs + " " + commands + " " + outputs, "1 3 1");
    }

    private static void save(String readme, String program) throws IOException {
        Matcher name = SAVED_AS.matcher(readme);
        Script.due("the README says where the program is saved", name.find() ? "yes" : "no", "yes");
        Path file = Path.of(name.group(1));
        Files.createDirectories(file.getParent());
        Files.writeString(file, program);
    }

    private static String run(String commands) throws IOException, InterruptedException {
        if (commands.trim().equals(".ci/run")) {
            // This very test is run by it.
            Script.due(".ci/run can be run", Files.isExecutable(Path.of(".ci/run")) ? "yes" : "no", "yes");
            return "";
        }
        Process process = new ProcessBuilder("bash", "-e", "-c", commands).redirectError(ProcessBuilder.Redirect.INHERIT).start();
        process.getOutputStream().close();
        String printed = new String(process.getInputStream().readAllBytes());
        int exit = process.waitFor();
        Script.due("exit code of " + commands + (exit == 0 ? "" : printed), String.valueOf(exit), "0");
        return printed;
    }

    private static void namesAllCalls(String prose) {
        List<String> named = new ArrayList<>();
        Matcher call = CALL.matcher(prose);
        while (call.find()) {
            int count = call.group(2).isEmpty() ? 0 : call.group(2).split(",").length;
            named.add(call.group(1) + " with " + count);
        }
        List<String> there = new ArrayList<>();
        for (Method method : PickScanner.class.getDeclaredMethods()) {
            if (Modifier.isPublic(method.getModifiers())) {
                there.add(method.getName() + " with " + method.getParameterCount());
            }
        }
        for (String method : there) {
            Script.due("the README names the call " + method, named.contains(method) ? "yes" : "no", "yes");
        }
        for (String method : named) {
            Script.due("there is the README's call " + method, there.contains(method) ? "yes" : "no", "yes");
        }
    }

    private static void namesAllTests(String prose) throws IOException {
        try (Stream<Path> files = Files.list(TESTS)) {
            for (Path file : (Iterable<Path>) files::iterator) {
                String name = file.getFileName().toString().replace(".java", "");
                Script.due("the README names " + name, prose.contains("`" + name + "`") ? "yes" : "no", "yes");
            }
        }
    }

    private static void namesFilesThatAreThere(String prose) {
        Matcher quoted = QUOTED.matcher(prose);
        while (quoted.find()) {
            String text = quoted.group(1);
            if (FILE.matcher(text).matches()) {
                Script.due("there is " + text, Files.exists(Path.of(text)) ? "yes" : "no", "yes");
            } else if (text.matches("\\w+Test")) {
                Script.due("there is " + text, Files.exists(TESTS.resolve(text + ".java")) ? "yes" : "no", "yes");
            }
        }
    }
}
