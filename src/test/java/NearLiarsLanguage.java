import java.io.IOException;
import java.nio.file.Files;
import java.nio.file.Path;
import java.util.List;
import java.util.regex.Matcher;
import java.util.regex.Pattern;

/** Those rules of LANGUAGE.md that can be seen from the text of the class alone. */
public final class NearLiarsLanguage {
    private static final Path SOURCE = Path.of("src/main/java/NearLiars.java");
    private static final String[] FORBIDDEN = {
        "\\bthrows?\\b", "\\btry\\b", "\\bcatch\\b", "\\bsynchronized\\b", "\\bassert\\b", "->", "::",
        "\\bpackage\\b", "\\bprotected\\b", "\\bstatic\\s*\\{", "Exact\\b", "\\bObject\\b", "\\bSystem\\.(?!arraycopy)",
        "\\bMath\\.(?!abs|max|min)", "\\bInteger\\.(?!bitCount)", "\\bArrays\\.(?!fill|copyOf)",
        "\\bequals\\b", "\\bhashCode\\b", "\\btoString\\b", "\\bimport (?!java\\.util\\.(Arrays|ArrayList|List);)",
    };
    private static final int LONGEST = 60;

    private static int wrong = 0;

    private static void fault(int line, String what) {
        wrong++;
        System.out.println(SOURCE + ":" + line + ": " + what);
    }

    public static void main(String[] args) throws IOException {
        List<String> lines = Files.readAllLines(SOURCE);
        int begun = 0;
        boolean inComment = false;
        for (int i = 0; i < lines.size(); i++) {
            String line = lines.get(i);
            for (char c : line.toCharArray()) {
                if (c < 32 || c > 126) {
                    fault(i + 1, "a sign that is not plain");
                }
            }
            String bare = line.strip();
            inComment |= bare.startsWith("/*");
            if (!inComment) {
                look(i + 1, line.replaceAll("//.*", ""));
            }
            inComment &= !bare.endsWith("*/");
            // Methods stand four signs in, those of the classes inside eight.
            if (line.matches("( {4}| {8})[\\w\\[\\]]+.*\\) \\{") && !bare.startsWith("if") && !bare.startsWith("for")) {
                begun = i;
            }
            if (line.matches("( {4}| {8})\\}") && i - begun > LONGEST && begun > 0 && line.indexOf('}') == indent(lines.get(begun))) {
                fault(begun + 1, "a method of " + (i - begun) + " lines");
            }
        }
        System.out.println(wrong == 0 ? "the text keeps to the rules" : wrong + " things are against the rules");
        if (wrong != 0) {
            System.exit(1);
        }
    }

    private static int indent(String line) {
        return line.length() - line.stripLeading().length();
    }

    private static void look(int number, String code) {
        for (String word : FORBIDDEN) {
            Matcher m = Pattern.compile(word).matcher(code);
            if (m.find()) {
                fault(number, "'" + m.group() + "' is not in the language");
            }
        }
        if (code.matches(".*\\bstatic\\b.*(=|;).*") && !code.contains(" final ") && !code.contains("(")) {
            fault(number, "a static field that is not final");
        }
        if (code.matches(".*\\bclass\\b.*") && indent(code) > 0 && !code.contains("static")) {
            fault(number, "a class inside that is not static");
        }
    }
}
