import java.io.IOException;
import java.lang.reflect.Method;
import java.lang.reflect.Modifier;
import java.nio.file.Files;
import java.nio.file.Path;
import java.util.Map;
import java.util.Set;
import java.util.TreeMap;
import java.util.TreeSet;
import java.util.regex.Matcher;
import java.util.regex.Pattern;

/** The run of calls that README.md shows: each answer is as told there, and no call is missing. */
public final class NearLiarsReadme {
    private static final Path README = Path.of("README.md");
    private static final Pattern SHOWN = Pattern.compile("x\\.(\\w+)\\(([-\\d, ]*)\\); +// (-?\\d+): .+");

    private static int wrong = 0;

    private static void fault(String what) {
        wrong++;
        System.out.println(README + ": " + what);
    }

    public static void main(String[] args) throws IOException, ReflectiveOperationException {
        Map<String, Method> calls = publicCalls();
        Set<String> missing = new TreeSet<>(calls.keySet());
        NearLiars x = new NearLiars();
        int shown = 0;
        for (String line : Files.readAllLines(README)) {
            if (!line.startsWith("x.")) {
                continue;
            }
            Matcher m = SHOWN.matcher(line);
            if (!m.matches() || !calls.containsKey(m.group(1))) {
                fault("'" + line + "' is no call with its answer");
                continue;
            }
            shown++;
            missing.remove(m.group(1));
            int got = (Integer) calls.get(m.group(1)).invoke(x, numbers(m.group(2)));
            if (got != Integer.parseInt(m.group(3))) {
                fault("'" + line + "' answered " + got);
            }
        }
        if (!missing.isEmpty()) {
            fault("no run shows " + missing);
        }
        System.out.println(shown + " calls shown, " + (wrong == 0 ? "all as told" : wrong + " things are not as due"));
        if (wrong != 0) {
            System.exit(1);
        }
    }

    private static Map<String, Method> publicCalls() {
        Map<String, Method> calls = new TreeMap<>();
        for (Method m : NearLiars.class.getDeclaredMethods()) {
            if (Modifier.isPublic(m.getModifiers())) {
                calls.put(m.getName(), m);
            }
        }
        return calls;
    }

    private static Object[] numbers(String list) {
        if (list.isBlank()) {
            return new Object[0];
        }
        String[] words = list.split(",");
        Object[] all = new Object[words.length];
        for (int i = 0; i < words.length; i++) {
            all[i] = Integer.valueOf(words[i].strip());
        }
        return all;
    }
}
