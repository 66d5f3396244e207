import java.io.IOException;
import java.lang.reflect.Field;
import java.lang.reflect.Method;
import java.lang.reflect.Modifier;
import java.nio.file.Files;
import java.nio.file.Path;
import java.util.ArrayList;
import java.util.List;
import java.util.Set;
import java.util.TreeSet;
import java.util.regex.Matcher;
import java.util.regex.Pattern;

/** Those rules of LANGUAGE.md that can be seen from the text of the class, or from its parts, alone. */
public final class NearLiarsLanguage {
    private static final Path SOURCE = Path.of("src/main/java/NearLiars.java");
    private static final String[] FORBIDDEN = {
        "\\bthrows?\\b", "\\btry\\b", "\\bcatch\\b", "\\bsynchronized\\b", "\\bassert\\b", "->", "::",
        "\\bpackage\\b", "\\bprotected\\b", "\\bstatic\\s*\\{", "Exact\\b", "\\bObject\\b", "\\bSystem\\.(?!arraycopy)",
        "\\bMath\\.(?!abs|max|min)", "\\bInteger\\.(?!bitCount)", "\\bArrays\\.(?!fill|copyOf)",
        "\\bequals\\b", "\\bhashCode\\b", "\\btoString\\b", "\\bimport (?!java\\.util\\.(Arrays|ArrayList|List);)",
    };
    private static final int LONGEST = 60;
    private static final int MOST_CLASSES = 12;
    private static final int MOST_FIELDS = 20;
    private static final int MOST_PARAMETERS = 7;
    /** The room is counted over all calls of a run: only what makes an object may make its parts. */
    private static final String MAKING = "        private final int\\[\\] \\w+ = new int\\[[A-Z_* ]+\\];|        \\w+ = new [A-Z]\\w+\\(\\);";

    private static int wrong = 0;

    private static void fault(int line, String what) {
        wrong++;
        System.out.println(SOURCE + ":" + line + ": " + what);
    }

    public static void main(String[] args) throws IOException {
        List<String> lines = Files.readAllLines(SOURCE);
        int begun = 0;
        boolean inComment = false;
        for (int i = 0; i < lines.size(); i++) {
            String line = lines.get(i);
            for (char c : line.toCharArray()) {
                if (c < 32 || c > 126) {
                    fault(i + 1, "a sign that is not plain");
                }
            }
            String bare = line.strip();
            inComment |= bare.startsWith("/*");
            if (!inComment) {
                look(i + 1, line.replaceAll("//.*", ""));
            }
            inComment &= !bare.endsWith("*/");
            // Methods stand four signs in, those of the classes inside eight.
            if (line.matches("( {4}| {8})[\\w\\[\\]]+.*\\) \\{") && !bare.startsWith("if") && !bare.startsWith("for")) {
                begun = i;
            }
            if (line.matches("( {4}| {8})\\}") && i - begun > LONGEST && begun > 0 && line.indexOf('}') == indent(lines.get(begun))) {
                fault(begun + 1, "a method of " + (i - begun) + " lines");
            }
        }
        lookAtParts();
        System.out.println(wrong == 0 ? "the text keeps to the rules" : wrong + " things are against the rules");
        if (wrong != 0) {
            System.exit(1);
        }
    }

    private static int indent(String line) {
        return line.length() - line.stripLeading().length();
    }

    private static void look(int number, String code) {
        for (String word : FORBIDDEN) {
            Matcher m = Pattern.compile(word).matcher(code);
            if (m.find()) {
                fault(number, "'" + m.group() + "' is not in the language");
            }
        }
        if (code.matches(".*\\bnew\\b.*") && !code.matches(MAKING)) {
            fault(number, "an object that is not made with the one that keeps it");
        }
        if (code.matches(".*\\bstatic\\b.*(=|;).*") && !code.contains(" final ") && !code.contains("(")) {
            fault(number, "a static field that is not final");
        }
        if (code.matches(".*\\bclass\\b.*") && indent(code) > 0 && !code.contains("static")) {
            fault(number, "a class inside that is not static");
        }
    }

    private static void lookAtParts() {
        List<Class<?>> classes = new ArrayList<>(List.of(NearLiars.class.getDeclaredClasses()));
        for (Class<?> inside : classes) {
            if (inside.getDeclaredClasses().length != 0) {
                fault(0, inside.getName() + " has classes inside, which go unseen here");
            }
        }
        classes.add(NearLiars.class);
        if (classes.size() > MOST_CLASSES) {
            fault(0, classes.size() + " classes");
        }
        Set<String> face = new TreeSet<>();
        for (Method m : NearLiars.class.getDeclaredMethods()) {
            if (Modifier.isPublic(m.getModifiers())) {
                face.add(m.getName());
            }
        }
        for (Class<?> c : classes) {
            lookAtFields(c);
            lookAtMethods(c, face);
        }
    }

    private static void lookAtFields(Class<?> c) {
        int count = 0;
        for (Field f : c.getDeclaredFields()) {
            boolean fixed = Modifier.isStatic(f.getModifiers());
            Class<?> type = f.getType();
            boolean own = type.getEnclosingClass() == NearLiars.class;
            if (fixed && (type != int.class || !Modifier.isFinal(f.getModifiers()))) {
                fault(0, c.getName() + "." + f.getName() + " is no constant");
            }
            if (type != int.class && type != int[].class && !own) {
                fault(0, c.getName() + "." + f.getName() + " is a " + type.getName());
            }
            count += fixed ? 0 : 1;
        }
        if (count > MOST_FIELDS) {
            fault(0, c.getName() + " has " + count + " fields");
        }
    }

    private static void lookAtMethods(Class<?> c, Set<String> face) {
        for (Method m : c.getDeclaredMethods()) {
            if (m.getParameterCount() > MOST_PARAMETERS) {
                fault(0, c.getName() + "." + m.getName() + " takes " + m.getParameterCount() + " parameters");
            }
            boolean own = c == NearLiars.class && Modifier.isPublic(m.getModifiers());
            if (!own && face.contains(m.getName())) {
                fault(0, c.getName() + "." + m.getName() + " bears the name of a public one");
            }
        }
    }
}
