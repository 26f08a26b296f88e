import java.io.IOException;
import java.lang.reflect.Constructor;
import java.lang.reflect.Field;
import java.lang.reflect.Method;
import java.lang.reflect.Modifier;
import java.nio.file.Files;
import java.nio.file.Path;
import java.util.Arrays;
import java.util.HashSet;
import java.util.List;
import java.util.Set;
import java.util.TreeSet;
import java.util.regex.Matcher;
import java.util.regex.Pattern;

/** The public face, and those rules of LANGUAGE.md that can be looked up in the class and its source. */
public final class FaceTest {
    private static final Due DUE = new Due("FaceTest");
    private static final Path SOURCE = Path.of("src/main/java/FaultTwins.java");
    private static final Set<String> FACE = new TreeSet<>(List.of(
        "int way(int, int, int)", "int drop(int)", "int deed(int, int, int)", "int draw(int, int)", "int anew()",
        "int of(int, int)", "int sees(int)", "int restarts()", "int known(int)", "int would(int)", "int sight(int)",
        "int all(int)", "int apart(int)", "int soonest(int)", "int enough(int)", "int fewest(int)",
        "int pair(int, int)", "int type(int)", "int clear()", "int reads()", "int back()", "int told(int)",
        "long digest()"));

    public static void main(String[] args) throws IOException {
        methods();
        fields();
        constructorAndClasses();
        source();
        DUE.end();
    }

    private static void methods() {
        Set<String> seen = new TreeSet<>();
        Set<String> names = new HashSet<>();
        for (Method method : FaultTwins.class.getDeclaredMethods()) {
            if (!Modifier.isPrivate(method.getModifiers())) {
                StringBuilder face = new StringBuilder(method.getReturnType().toString() + " " + method.getName());
                String types = Arrays.toString(method.getParameterTypes());
                seen.add(face.append('(').append(types, 1, types.length() - 1).append(')').toString());
                names.add(method.getName());
                DUE.is(method.getName() + " is public and no more", method.getModifiers(), Modifier.PUBLIC);
                DUE.is(method.getName() + " throws", method.getExceptionTypes().length, 0);
            }
        }
        DUE.holds("the methods are " + seen, seen.equals(FACE));
        for (Method method : FaultTwins.class.getDeclaredMethods()) {
            boolean hidden = Modifier.isPrivate(method.getModifiers());
            DUE.holds(method + " bears no public one's name", !hidden || !names.contains(method.getName()));
        }
    }

    private static void fields() {
        int constants = 0;
        for (Field field : FaultTwins.class.getDeclaredFields()) {
            int modifiers = field.getModifiers();
            DUE.holds(field + " static is final", !Modifier.isStatic(modifiers) || Modifier.isFinal(modifiers));
            if (!Modifier.isPrivate(modifiers)) {
                constants++;
                DUE.is(field.toString(), modifiers, Modifier.PUBLIC | Modifier.STATIC | Modifier.FINAL);
            }
        }
        DUE.is("constants", constants, 4);
        DUE.is("NONE", FaultTwins.NONE, -1);
        DUE.is("BAD", FaultTwins.BAD, -2);
        DUE.is("NO", FaultTwins.NO, -3);
        DUE.is("FULL", FaultTwins.FULL, -4);
    }

    private static void constructorAndClasses() {
        Constructor<?>[] made = FaultTwins.class.getDeclaredConstructors();
        DUE.is("constructors", made.length, 1);
        DUE.is("its modifiers", made[0].getModifiers(), Modifier.PUBLIC);
        DUE.is("its parameters", made[0].getParameterCount(), 0);
        DUE.is("the class", FaultTwins.class.getModifiers(), Modifier.PUBLIC | Modifier.FINAL);
        Class<?>[] inside = FaultTwins.class.getDeclaredClasses();
        DUE.holds("at most twelve classes", inside.length < 12);
        size(FaultTwins.class);
        for (Class<?> one : inside) {
            DUE.holds(one + " is static", Modifier.isStatic(one.getModifiers()));
            DUE.holds(one + " is not public", !Modifier.isPublic(one.getModifiers()));
            DUE.is(one + " has classes inside", one.getDeclaredClasses().length, 0);
            size(one);
        }
    }

    /** Rules 1, 3, 5 and 11: names, types, static fields, how many fields and parameters. */
    private static void size(Class<?> one) {
        int fields = 0;
        for (Field field : one.getDeclaredFields()) {
            boolean isStatic = Modifier.isStatic(field.getModifiers());
            fields += isStatic ? 0 : 1;
            DUE.holds(field + " static is a final int", !isStatic
                || Modifier.isFinal(field.getModifiers()) && field.getType() == int.class);
            Class<?> type = field.getType().isArray() ? field.getType().getComponentType() : field.getType();
            boolean own = type.isPrimitive() || type.getEnclosingClass() == FaultTwins.class;
            DUE.holds(field + " is of a type that may be", own);
        }
        DUE.holds(one + " has at most twenty fields", fields <= 20);
        for (Method method : one.getDeclaredMethods()) {
            DUE.holds(method + " has at most seven parameters", method.getParameterCount() <= 7);
            boolean face = FACE.stream().anyMatch(line -> line.contains(" " + method.getName() + "("));
            DUE.holds(method + " bears no public one's name", one == FaultTwins.class || !face);
        }
    }

    private static void source() throws IOException {
        String source = Files.readString(SOURCE);
        DUE.holds("signs 1 to 127", source.chars().allMatch(c -> c < 128));
        String code = source.replaceAll("(?s)/\\*.*?\\*/", "").replaceAll("//.*", "");
        String words = "\\b(throw|throws|try|catch|synchronized|assert|package|protected|native|volatile)\\b|->|::";
        Matcher found = Pattern.compile(words).matcher(code);
        DUE.holds("no word that LANGUAGE.md rules out" , !found.find());
        Matcher imports = Pattern.compile("import [^;]*;").matcher(code);
        while (imports.find()) {
            DUE.holds(imports.group(), imports.group().equals("import java.util.Arrays;"));
        }
        longMethods(code);
    }

    /** A method is what stands between its head and the brace that closes it, by the indent. */
    private static void longMethods(String code) {
        String[] lines = code.split("\n");
        for (int i = 0; i < lines.length; i++) {
            String indent = lines[i].substring(0, lines[i].length() - lines[i].stripLeading().length());
            if (lines[i].endsWith(") {") && (indent.length() == 4 || indent.length() == 8)) {
                int end = i;
                while (end < lines.length && !lines[end].equals(indent + "}")) {
                    end++;
                }
                DUE.holds("short: " + lines[i].strip(), end - i < 60);
            }
        }
    }
}
