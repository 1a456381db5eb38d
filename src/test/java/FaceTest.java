import java.io.IOException;
import java.lang.reflect.Constructor;
import java.lang.reflect.Field;
import java.lang.reflect.Method;
import java.lang.reflect.Modifier;
import java.nio.file.Files;
import java.nio.file.Path;
import java.util.Arrays;
import java.util.HashSet;
import java.util.Set;
import java.util.TreeSet;
import java.util.regex.Matcher;
import java.util.regex.Pattern;

/** The public face, and those rules of LANGUAGE.md that can be seen from the class and its text. */
public final class FaceTest {
    private static final Check CHECK = new Check();
    private static final Set<String> METHODS = new TreeSet<>(Arrays.asList(
        "feed1", "net0", "fault1", "told1", "station2", "stretch2", "line2", "along2", "fix2", "loose1", "count2", "move3",
        "drift1", "undo0", "bend2", "would2", "plans0", "order2", "crossings1", "cross2", "keep1", "goBack1"));
    private static final Set<String> CONSTANTS = new TreeSet<>(Arrays.asList("NONE", "UNKNOWN", "OUTSIDE", "NOT", "FULL"));

    public static void main(String[] args) throws IOException {
        CHECK.part("face");
        members();
        classesInside();
        words(Files.readString(Path.of("src/main/java/EightWays.java")));
        CHECK.end();
    }

    private static void expect(String what, boolean holds) {
        CHECK.due(what, holds ? 1 : 0, 1);
    }

    private static void members() {
        int modifiers = EightWays.class.getModifiers();
        expect("public and final", Modifier.isPublic(modifiers) && Modifier.isFinal(modifiers));
        Set<String> methods = new TreeSet<>();
        Set<String> names = new HashSet<>();
        for (String m : METHODS) {
            names.add(m.substring(0, m.length() - 1));
        }
        for (Method m : EightWays.class.getDeclaredMethods()) {
            if (Modifier.isPublic(m.getModifiers())) {
                methods.add(m.getName() + m.getParameterCount());
                expect(m + " is plain", m.getReturnType() == int.class && !Modifier.isStatic(m.getModifiers())
                    && Arrays.stream(m.getParameterTypes()).allMatch(p -> p == int.class));
            } else {
                expect(m + " is private", Modifier.isPrivate(m.getModifiers()));
                expect(m + " has a name of its own", !names.contains(m.getName()));
            }
        }
        expect("methods " + methods, methods.equals(METHODS));
        Set<String> constants = new TreeSet<>();
        for (Field f : EightWays.class.getDeclaredFields()) {
            if (Modifier.isPublic(f.getModifiers())) {
                constants.add(f.getName());
                expect(f + " is a constant", f.getType() == int.class && Modifier.isStatic(f.getModifiers()) && Modifier.isFinal(f.getModifiers()));
            } else {
                expect(f + " is private", Modifier.isPrivate(f.getModifiers()));
                expect(f + " is no static state", !Modifier.isStatic(f.getModifiers()) || Modifier.isFinal(f.getModifiers()));
            }
        }
        expect("constants " + constants, constants.equals(CONSTANTS));
        Constructor<?>[] made = EightWays.class.getDeclaredConstructors();
        expect("one public constructor", made.length == 1 && Modifier.isPublic(made[0].getModifiers()) && made[0].getParameterCount() == 0);
    }

    private static void classesInside() {
        Class<?>[] inside = EightWays.class.getDeclaredClasses();
        expect("at most eleven classes inside", inside.length <= 11);
        for (Class<?> c : inside) {
            int m = c.getModifiers();
            expect(c + " is static and not public", Modifier.isStatic(m) && !Modifier.isPublic(m) && !Modifier.isProtected(m));
            long fields = Arrays.stream(c.getDeclaredFields()).filter(f -> !Modifier.isStatic(f.getModifiers())).count();
            expect(c + " has some twenty fields", fields <= 20);
            for (Method method : c.getDeclaredMethods()) {
                expect(method + " has seven parameters at most", method.getParameterCount() <= 7);
            }
        }
    }

    private static void words(String source) {
        String code = source.replaceAll("(?s)/\\*.*?\\*/", " ").replaceAll("//[^\n]*", " ");
        Matcher forbidden = Pattern.compile("\\b(throw|throws|try|catch|synchronized|assert|float|double|Object|Exception|package|native|goto)\\b|->|::|@").matcher(code);
        while (forbidden.find()) {
            CHECK.fail("the program has '" + forbidden.group() + "'");
        }
        Matcher imports = Pattern.compile("import\\s+([^;]+);").matcher(code);
        while (imports.find()) {
            expect("import " + imports.group(1), imports.group(1).equals("java.util.Arrays"));
        }
        Matcher library = Pattern.compile("\\b(Math|Integer|Long|System|Arrays)\\.(\\w+)").matcher(code);
        Set<String> allowed = Set.of("Math.min", "Math.max", "Math.abs", "System.arraycopy", "Arrays.fill", "Integer.bitCount");
        while (library.find()) {
            expect("use of " + library.group(), allowed.contains(library.group()));
        }
        expect("ascii alone", source.chars().allMatch(c -> c < 127));
    }
}
