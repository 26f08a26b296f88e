import java.io.IOException;
import java.lang.reflect.InvocationTargetException;
import java.lang.reflect.Method;
import java.lang.reflect.Modifier;
import java.nio.file.Files;
import java.nio.file.Path;
import java.util.Arrays;
import java.util.List;
import java.util.regex.Matcher;
import java.util.regex.Pattern;
import java.util.stream.Collectors;
import java.util.stream.Stream;

/** README.md says what is so: its example is called line by line, its lists are compared with what there is. */
public final class ReadmeTest {
    private static final Due DUE = new Due("ReadmeTest");
    private static final Path README = Path.of("README.md");
    private static final Path SENTENCES = Path.of("src/test/SENTENCES.md");
    private static final Path TESTS = Path.of("src/test/java");

    public static void main(String[] args) throws IOException, ReflectiveOperationException {
        String readme = Files.readString(README);
        example(readme);
        sameMachineAsText(readme);
        everyCallIsListed(readme);
        answersBelowZero(readme);
        everyTestIsListed(readme);
        sentences(Files.readString(SENTENCES));
        DUE.holds("for how many calls", readme.contains("at most 512 calls"));
        DUE.holds("the command of the tests", readme.contains("`.ci/run`") && Files.exists(Path.of(".ci/run")));
        DUE.end();
    }

    /** Each line of the example with what it answers. */
    private static void example(String readme) throws IllegalAccessException, InvocationTargetException {
        FaultTwins x = new FaultTwins();
        Matcher line = Pattern.compile("(?m)^x\\.(\\w+)\\(([^)]*)\\); +// (-?\\d+): ").matcher(readme);
        int lines = 0;
        while (line.find()) {
            lines++;
            Object[] numbers = Stream.of(line.group(2).split(", ")).filter(s -> !s.isEmpty())
                .map(Integer::valueOf).toArray();
            DUE.is(line.group(), (Integer) method(line.group(1)).invoke(x, numbers), Long.parseLong(line.group(3)));
        }
        Matcher all = Pattern.compile("(?m)^x\\.").matcher(readme);
        DUE.is("lines of the example that tell an answer", lines, all.results().count());
        DUE.holds("there is an example", lines > 10);
    }

    private static Method method(String name) {
        for (Method method : face()) {
            if (method.getName().equals(name)) {
                return method;
            }
        }
        throw new IllegalStateException("no call " + name);
    }

    private static List<Method> face() {
        return Arrays.stream(FaultTwins.class.getDeclaredMethods())
            .filter(method -> Modifier.isPublic(method.getModifiers())).collect(Collectors.toList());
    }

    private static void sameMachineAsText(String readme) {
        Matcher text = Pattern.compile("type the bytes of `([^`]+)`").matcher(readme);
        DUE.holds("there is a text", text.find());
        FaultTwins read = Due.machine(text.group(1));
        FaultTwins told = new FaultTwins();
        told.deed(6, 1, 1);
        told.deed(6, 0, 0);
        told.way(0, 6, 1);
        told.way(0, 0, 0);
        told.way(1, 1, 1);
        for (int what = 4; what <= 6; what++) {
            DUE.is("the same machine: told(" + what + ")", read.told(what), told.told(what));
        }
        for (int i = 0; i < 9; i++) {
            DUE.is("the same machine: of", read.of(i / 3, i % 3), told.of(i / 3, i % 3));
        }
    }

    private static void everyCallIsListed(String readme) {
        String rows = readme.substring(readme.indexOf("| calls |"), readme.indexOf("## Answers below 0"));
        for (Method method : face()) {
            DUE.holds("the list has " + method.getName(), rows.contains("`" + method.getName() + "`"));
        }
    }

    private static void answersBelowZero(String readme) {
        String[] names = {"NONE", "BAD", "NO", "FULL"};
        int[] numbers = {FaultTwins.NONE, FaultTwins.BAD, FaultTwins.NO, FaultTwins.FULL};
        for (int i = 0; i < names.length; i++) {
            DUE.holds(names[i], readme.contains("| `" + names[i] + "` (" + numbers[i] + ") |"));
        }
    }

    private static void everyTestIsListed(String readme) throws IOException {
        String rows = readme.substring(readme.indexOf("| test |"));
        try (Stream<Path> files = Files.list(TESTS)) {
            for (Path file : files.collect(Collectors.toList())) {
                String name = file.getFileName().toString().replace(".java", "");
                DUE.holds("the list has " + name, !name.endsWith("Test") || rows.contains("`" + name + "`"));
            }
        }
        Matcher listed = Pattern.compile("`(\\w+Test)`").matcher(rows);
        while (listed.find()) {
            DUE.holds("there is " + listed.group(1), Files.exists(TESTS.resolve(listed.group(1) + ".java")));
        }
    }

    /** Each `Class.method`, and each `method` behind one of the same class, is a method of that test. */
    private static void sentences(String sentences) throws ClassNotFoundException {
        Matcher name = Pattern.compile("`(?:(\\w+Test)\\.)?([a-z]\\w*)`|`(\\w+Test)`").matcher(sentences);
        String test = "";
        int named = 0;
        while (name.find()) {
            if (name.group(3) != null) {
                test = name.group(3);
                Class.forName(test);
            } else {
                test = name.group(1) == null ? test : name.group(1);
                String method = name.group(2);
                boolean there = Arrays.stream(Class.forName(test).getDeclaredMethods())
                    .anyMatch(one -> one.getName().equals(method));
                DUE.holds(test + "." + method + " is there", there);
                named++;
            }
        }
        DUE.holds("tests are named", named > 80);
        for (int promise = 1; promise <= 24; promise++) {
            DUE.holds("promise " + promise + " has a row", sentences.contains("\n| " + promise + " "));
        }
    }
}
