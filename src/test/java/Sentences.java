import java.io.IOException;
import java.nio.file.Files;
import java.nio.file.Path;
import java.util.ArrayList;
import java.util.HashMap;
import java.util.HashSet;
import java.util.LinkedHashMap;
import java.util.List;
import java.util.Map;
import java.util.Set;

/**
 * Tests headed by sentences of ../shared/DOC.md: a quoted sentence (or a part of one) must stand in its
 * section, and in the end no sentence may be left without a test, but for those said to name no case.
 */
final class Sentences {
    private static final Path DOCUMENT = Path.of("../shared/DOC.md");
    private static final Map<String, List<String>> DOCUMENT_SENTENCES = new LinkedHashMap<>();
    private static final Map<String, Set<String>> QUOTED = new HashMap<>();

    private Sentences() {
    }

    static void terms(String quote, String lines) {
        check("Terms", quote, lines);
    }

    static void promise(int number, String quote, String lines) {
        check("Promise " + number, quote, lines);
    }

    /** An undoable call: it saves one state, and an undo takes back all that it changed. */
    static void undoable(int number, String preparation, String call) {
        quote("Promise " + number, "Undoable.");
        for (Script script : new Script[] {new Script(new PickScanner()), new Script(new NaiveScanner())}) {
            String where = "Promise " + number + ", undoable: " + call;
            script.runLines(where, preparation);
            String before = Fingerprint.of(script);
            int saved = Integer.parseInt(script.answer("total", 13));
            script.runLines(where, call);
            Script.due(where + ", saved states", script.answer("total", 13), String.valueOf(Math.min(6, saved + 1)));
            Script.due(where + ", undo", script.answer("undo"), String.valueOf(Math.min(5, saved)));
            // With six states before, the oldest one has been dropped, so that one fewer remains.
            String due = before.replace("total 13 = 6;", "total 13 = 5;");
            Script.due(where + ", not taken back", Fingerprint.difference(due, Fingerprint.of(script)), "none");
        }
    }

    /** This sentence names no case that a test of its own could show. */
    static void noCase(String section, String quote) {
        quote(section, quote);
    }

    static void everySentenceHasATest() {
        for (String section : DOCUMENT_SENTENCES.keySet()) {
            Set<String> quotes = QUOTED.getOrDefault(section, Set.of());
            for (String sentence : DOCUMENT_SENTENCES.get(section)) {
                boolean tested = quotes.stream().anyMatch(quote -> quote.contains(sentence) || sentence.contains(quote));
                Script.due(section + ": " + sentence, tested ? "tested" : "not tested", "tested");
            }
        }
    }

    private static void check(String section, String quote, String lines) {
        quote(section, quote);
        Script.check(section + ": " + quote, lines);
    }

    private static void quote(String section, String quote) {
        String text = String.join(" ", sentencesOf(section));
        Script.due(section + ": " + quote, text.contains(quote) ? "stands" : "does not stand in the document", "stands");
        QUOTED.computeIfAbsent(section, any -> new HashSet<>()).add(quote);
    }

    private static List<String> sentencesOf(String section) {
        if (DOCUMENT_SENTENCES.isEmpty()) {
            readDocument();
        }
        return DOCUMENT_SENTENCES.getOrDefault(section, List.of());
    }

    private static void readDocument() {
        String document;
        try {
            document = Files.readString(DOCUMENT);
        } catch (IOException missing) {
            throw new IllegalStateException("there is no " + DOCUMENT, missing);
        }
        for (String part : document.split("(?m)^## ")) {
            String title = part.substring(0, part.indexOf('\n')).replaceFirst(":.*", "");
            if (title.equals("Terms") || title.startsWith("Promise ")) {
                DOCUMENT_SENTENCES.put(title, split(part.substring(part.indexOf('\n'))));
            }
        }
    }

    private static List<String> split(String text) {
        List<String> sentences = new ArrayList<>();
        String paragraphs = text.replaceAll("(?m)^[A-Z ]+$", "").replaceAll("(?m)^- ", "\n").replaceAll("(?m)^\\d\\. ", "\n");
        for (String paragraph : paragraphs.split("\n\\s*\n")) {
            String line = paragraph.replaceAll("\\s+", " ").trim();
            // The head of a promise begins with the call as Java has it.
            for (String sentence : line.replaceFirst("^`[^`]*\\([^`]*`: ", "").split("(?<=\\.) (?=[A-Z])")) {
                if (!sentence.isBlank()) {
                    sentences.add(sentence);
                }
            }
        }
        return sentences;
    }
}
