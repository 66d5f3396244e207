import java.io.IOException;
import java.nio.file.Files;
import java.nio.file.Path;
import java.util.LinkedHashMap;
import java.util.Map;

/**
 * Answers that are due, each told with the sentence of the document that asks for it. A sentence is
 * quoted word for word, so that a test can be found by it, and those that no test quotes are told.
 */
final class Sentences {
    private static final Path DOCUMENT = Path.of("../shared/DOC.md");

    private final Map<String, StringBuilder> texts = new LinkedHashMap<>();
    private final Map<String, boolean[]> quoted = new LinkedHashMap<>();
    private String now = "";
    private int calls = 1;
    private int wrong = 0;
    private int count = 0;

    Sentences() {
        if (Files.isReadable(DOCUMENT)) {
            read();
        } else {
            System.out.println(DOCUMENT + " is not here: the quotes go unchecked");
        }
        texts.forEach((section, text) -> quoted.put(section, new boolean[text.length()]));
    }

    /** Sections are 'What it is', 'Terms', 'Part 1' .. 'Part 4', 'Promise 1' .. 'Promise 26'. */
    private void read() {
        String section = "";
        try {
            for (String line : Files.readAllLines(DOCUMENT)) {
                String words = line.strip();
                if (words.startsWith("#")) {
                    section = words.replaceFirst("^#+ ", "").replaceFirst("^(Promise \\d+):.*", "$1");
                    continue;
                }
                if (words.startsWith("==== ")) {
                    section = "Part " + words.charAt(5);
                    words = words.substring(6).strip();
                }
                // What the interface says ahead of its calls is about its look alone.
                if (!words.startsWith("```") && !words.startsWith("Ahead of the calls")) {
                    words = words.replaceFirst("^`[^`]*`: ", "");
                    texts.computeIfAbsent(section, k -> new StringBuilder()).append(words).append(' ');
                }
            }
        } catch (IOException e) {
            fault(DOCUMENT + " can't be read: " + e.getMessage());
        }
    }

    private void fault(String what) {
        wrong++;
        System.out.println(what);
    }

    /** What follows shows that these words of the document hold. */
    void of(String section, String words) {
        closeLast();
        now = section + ", '" + words + "'";
        calls = 0;
        count++;
        if (texts.isEmpty()) {
            return;
        }
        int at = texts.containsKey(section) ? texts.get(section).indexOf(words) : -1;
        if (at < 0) {
            fault(now + " does not stand in the document");
            return;
        }
        for (int i = 0; i < words.length(); i++) {
            quoted.get(section)[at + i] = true;
        }
    }

    private void closeLast() {
        if (calls == 0) {
            fault(now + " has no test");
        }
    }

    void due(String call, int got, int want) {
        calls++;
        if (got != want) {
            fault(now + ": " + call + " answered " + got + ", due is " + want);
        }
    }

    /** Some other answer than that one. */
    void not(String call, int got, int other) {
        calls++;
        if (got == other) {
            fault(now + ": " + call + " answered " + got);
        }
    }

    /** Ends the test; of these sections each word must have been quoted. */
    void end(String... sections) {
        closeLast();
        for (String section : sections) {
            if (texts.containsKey(section)) {
                tellUnquoted(section);
            } else if (!texts.isEmpty()) {
                fault("no section '" + section + "' in the document");
            }
        }
        System.out.println(count + " quotes, " + (wrong == 0 ? "all hold" : wrong + " things are not as due"));
        if (wrong != 0) {
            System.exit(1);
        }
    }

    private void tellUnquoted(String section) {
        StringBuilder rest = new StringBuilder();
        for (int i = 0; i < quoted.get(section).length; i++) {
            rest.append(quoted.get(section)[i] ? ' ' : texts.get(section).charAt(i));
        }
        for (String words : rest.toString().split(" {3,}")) {
            if (words.matches(".*\\w.*")) {
                fault(section + ": no test quotes '" + words.strip() + "'");
            }
        }
    }
}
