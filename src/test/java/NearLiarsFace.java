import java.lang.reflect.Constructor;
import java.lang.reflect.Field;
import java.lang.reflect.Method;
import java.lang.reflect.Modifier;
import java.util.Arrays;
import java.util.Set;
import java.util.TreeSet;

/** The public face is the document's, and nothing more than that can be seen from outside. */
public final class NearLiarsFace {
    private static final String[] CALLS = {
        "net 1", "grid 3", "edge 3", "neighbours 1", "dealer 2", "need 1", "lie 2",
        "begin 0", "ticks 1", "node 2", "band 2",
        "sort 1", "crowded 1", "reached 1", "worst 1", "bears 0", "name 1", "named 1",
        "walk 1", "tell 1", "drop 0", "claim 2", "proof 2", "believes 1", "many 1",
    };

    private static int wrong = 0;

    private static void check(String what, boolean holds) {
        if (!holds) {
            wrong++;
            System.out.println("the face: not so: " + what);
        }
    }

    public static void main(String[] args) {
        Class<?> c = NearLiars.class;
        check("public and final", Modifier.isPublic(c.getModifiers()) && Modifier.isFinal(c.getModifiers()));
        constants(c);
        constructors(c);
        methods(c);
        for (Class<?> inside : c.getDeclaredClasses()) {
            int m = inside.getModifiers();
            check(inside.getName() + " is static and not public",
                Modifier.isStatic(m) && !Modifier.isPublic(m) && !Modifier.isProtected(m));
        }
        System.out.println(wrong == 0 ? "the face is as due" : wrong + " things are not as due");
        if (wrong != 0) {
            System.exit(1);
        }
    }

    private static void constants(Class<?> c) {
        check("UNKNOWN", NearLiars.UNKNOWN == -1);
        check("OUTSIDE", NearLiars.OUTSIDE == -2);
        check("STATE", NearLiars.STATE == -3);
        check("NONE", NearLiars.NONE == -9);
        Set<String> seen = new TreeSet<>();
        for (Field f : c.getDeclaredFields()) {
            int m = f.getModifiers();
            check(f.getName() + " is final, if static", !Modifier.isStatic(m) || Modifier.isFinal(m));
            if (!Modifier.isPrivate(m)) {
                check(f.getName() + " is a constant of int", f.getType() == int.class
                    && Modifier.isPublic(m) && Modifier.isStatic(m));
                seen.add(f.getName());
            }
        }
        check("four constants and no other: " + seen,
            seen.equals(Set.of("UNKNOWN", "OUTSIDE", "STATE", "NONE")));
    }

    private static void constructors(Class<?> c) {
        Constructor<?>[] all = c.getDeclaredConstructors();
        check("one public constructor without arguments", all.length == 1
            && Modifier.isPublic(all[0].getModifiers()) && all[0].getParameterCount() == 0);
    }

    private static void methods(Class<?> c) {
        Set<String> seen = new TreeSet<>();
        Set<String> faceNames = new TreeSet<>();
        for (String call : CALLS) {
            faceNames.add(call.split(" ")[0]);
        }
        for (Method f : c.getDeclaredMethods()) {
            if (Modifier.isPrivate(f.getModifiers())) {
                check(f.getName() + " is no public name", !faceNames.contains(f.getName()));
                continue;
            }
            boolean ints = f.getReturnType() == int.class;
            for (Class<?> p : f.getParameterTypes()) {
                ints &= p == int.class;
            }
            check(f.getName() + " is public, of int alone and not static",
                ints && Modifier.isPublic(f.getModifiers()) && !Modifier.isStatic(f.getModifiers()));
            seen.add(f.getName() + " " + f.getParameterCount());
        }
        check("the calls of the document and no other: " + seen,
            seen.equals(new TreeSet<>(Arrays.asList(CALLS))));
    }
}
