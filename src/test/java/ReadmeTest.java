import java.io.ByteArrayOutputStream;
import java.io.IOException;
import java.io.PrintStream;
import java.lang.reflect.Method;
import java.lang.reflect.Modifier;
import java.net.URL;
import java.net.URLClassLoader;
import java.nio.file.Files;
import java.nio.file.Path;
import java.util.Arrays;
import java.util.Comparator;
import java.util.List;
import java.util.Set;
import java.util.TreeSet;
import java.util.regex.MatchResult;
import java.util.regex.Pattern;
import java.util.stream.Collectors;
import java.util.stream.Stream;
import javax.tools.JavaCompiler;
import javax.tools.ToolProvider;

/** What README.md says of its example, of the calls, of the texts and of the files is true of them. */
public final class ReadmeTest {
    private static final String SOURCE = "src/main/java/FootnoteFishery.java";
    private static final Path TESTS = Path.of("src/test/java");
    private static final Pattern JAVA = Pattern.compile("```java\n(.*?)```\n\nIt prints:\n\n```text\n(.*?)```", Pattern.DOTALL);
    private static final Pattern TEXTS = Pattern.compile("\n## Texts\n.*?```text\n(.*?)```", Pattern.DOTALL);
    private static final Pattern CALL_ROW = Pattern.compile("\n\\| `(\\w+ (\\w+)\\(.*?\\))` \\| [^|]+ \\| (.*?) \\|");
    private static final Pattern DENIAL_ROW = Pattern.compile("\n\\| (\\d+) \\| [^|]+ \\| [^|]+ \\| (.*?) \\|");
    private static final Pattern HEADING = Pattern.compile("\n### .* \\(promises (\\d+) to (\\d+)\\)\n");
    private static final Pattern METHOD = Pattern.compile("\n    public \\w+ (\\w+)\\(");
    private static final Pattern TEST_NAME = Pattern.compile("\\b\\w+Test\\b");
    private static final Pattern FILE_NAME = Pattern.compile("(?:\\.ci|src)/[\\w/.]*\\w");

    private static String readme;

    private ReadmeTest() {
    }

    public static void main(String[] args) throws Exception {
        readme = Files.readString(Path.of("README.md"));
        exampleAnswers();
        callsAreTheFace();
        callsStandUnderTheirPromises();
        denialsAreThoseOfTheCalls();
        textsMakeTheirCalls();
        filesExist();
        testsAreNamed();
        Check.end("ReadmeTest");
    }

    private static List<MatchResult> all(Pattern pattern, String text) {
        return pattern.matcher(text).results().collect(Collectors.toList());
    }

    // ---- the example

    private static void exampleAnswers() throws Exception {
        List<MatchResult> examples = all(JAVA, readme);
        Check.equal("examples", examples.size(), 1);
        for (MatchResult example : examples) {
            Path directory = Files.createTempDirectory("readme");
            try {
                Check.same("the example", printed(directory, example.group(1)), example.group(2));
            } finally {
                delete(directory);
            }
        }
    }

    private static String printed(Path directory, String program) throws Exception {
        Path file = directory.resolve("Example.java");
        Files.writeString(file, program);
        JavaCompiler compiler = ToolProvider.getSystemJavaCompiler();
        int code = compiler.run(null, null, null, "-cp", System.getProperty("java.class.path"), "-d", directory.toString(), file.toString());
        if (code != 0) {
            return "nothing, for it can't be compiled";
        }
        PrintStream before = System.out;
        ByteArrayOutputStream output = new ByteArrayOutputStream();
        try (URLClassLoader loader = new URLClassLoader(new URL[] {directory.toUri().toURL()})) {
            System.setOut(new PrintStream(output, true));
            loader.loadClass("Example").getMethod("main", String[].class).invoke(null, (Object) new String[0]);
        } finally {
            System.setOut(before);
        }
        return output.toString().replace("\r\n", "\n");
    }

    private static void delete(Path directory) throws IOException {
        try (Stream<Path> paths = Files.walk(directory)) {
            for (Path path : paths.sorted(Comparator.reverseOrder()).collect(Collectors.toList())) {
                Files.delete(path);
            }
        }
    }

    // ---- the calls

    private static Set<Method> face() {
        return Arrays.stream(FootnoteFishery.class.getDeclaredMethods())
            .filter(method -> Modifier.isPublic(method.getModifiers())).collect(Collectors.toSet());
    }

    /** Each public method has just one row, with its parameters and with its exceptions in their order. */
    private static void callsAreTheFace() throws IOException {
        String source = Files.readString(Path.of(SOURCE)).replaceAll("\\s+", " ");
        List<MatchResult> rows = all(CALL_ROW, readme);
        Check.equal("rows of calls", rows.size(), face().size());
        Check.same("names of calls", named(rows, 2).toString(), namesOf(face()).toString());
        for (MatchResult row : rows) {
            String exceptions = row.group(3).equals("nothing") ? "" : " throws " + row.group(3).replace("`", "");
            String declared = "public " + row.group(1) + exceptions + " {";
            Check.that("the class has: " + declared, source.contains(declared));
        }
    }

    private static Set<String> named(List<MatchResult> rows, int group) {
        return rows.stream().map(row -> row.group(group)).collect(Collectors.toCollection(TreeSet::new));
    }

    private static Set<String> namesOf(Set<Method> methods) {
        return methods.stream().map(Method::getName).collect(Collectors.toCollection(TreeSet::new));
    }

    /** The class has its methods in the order of the promises, the first of them that of promise 2. */
    private static void callsStandUnderTheirPromises() throws IOException {
        List<MatchResult> methods = all(METHOD, Files.readString(Path.of(SOURCE)));
        List<MatchResult> headings = all(HEADING, readme);
        int next = 2;
        for (int i = 0; i < headings.size(); i++) {
            MatchResult heading = headings.get(i);
            int end = i + 1 < headings.size() ? headings.get(i + 1).start() : readme.indexOf("\n## What the calls throw\n");
            Check.equal("the first promise under" + heading.group(), Integer.parseInt(heading.group(1)), next);
            int behind = Integer.parseInt(heading.group(2)) + 1;
            String due = inOrder(methods, 1, next - 2, behind - 2);
            List<MatchResult> rows = all(CALL_ROW, readme.substring(heading.start(), end));
            Check.same("the calls under" + heading.group(), inOrder(rows, 2, 0, rows.size()), due);
            next = behind;
        }
        Check.equal("promises and methods", next, methods.size() + 2);
    }

    private static String inOrder(List<MatchResult> rows, int group, int from, int behind) {
        return rows.stream().limit(behind).skip(from).map(row -> row.group(group)).collect(Collectors.joining(" "));
    }

    private static void denialsAreThoseOfTheCalls() {
        List<MatchResult> rows = all(DENIAL_ROW, readme);
        Set<String> named = new TreeSet<>();
        for (int i = 0; i < rows.size(); i++) {
            Check.equal("number of a denial", Integer.parseInt(rows.get(i).group(1)), i + 1);
            named.addAll(Arrays.asList(rows.get(i).group(2).replace("`", "").split(", ")));
        }
        Check.equal("denials", rows.size(), 9);
        Set<Method> denied = face().stream()
            .filter(method -> Arrays.asList(method.getExceptionTypes()).contains(UnsupportedOperationException.class))
            .collect(Collectors.toSet());
        Check.same("calls that are denied", named.toString(), namesOf(denied).toString());
    }

    // ---- the texts

    /** The commands are made one after another, by text on one fishery and by call on its twin. */
    private static void textsMakeTheirCalls() throws Exception {
        List<MatchResult> tables = all(TEXTS, readme);
        Check.equal("tables of texts", tables.size(), 1);
        FootnoteFishery byText = Bounds.made(ReadmeTest::twoNotesAndANet);
        FootnoteFishery byCall = Bounds.made(ReadmeTest::twoNotesAndANet);
        Set<String> made = new TreeSet<>();
        for (String line : tables.get(0).group(1).split("\n")) {
            String[] sides = line.split(" {2,}");
            String name = sides[1].substring(0, sides[1].indexOf('('));
            made.add(name);
            Check.equal(line, Bounds.run(byText, sides[0]), 1);
            call(byCall, name, sides[1].substring(name.length() + 1, sides[1].indexOf(')')));
            Check.same(line, Look.STATE.at(byText), Look.STATE.at(byCall));
        }
        Check.equal("commands", made.size(), 12);
    }

    private static void twoNotesAndANet(FootnoteFishery x) {
        x.addNote(0, 30);
        x.addNote(1, 30);
        x.addNet(3, 1, 30);
    }

    private static void call(FootnoteFishery x, String name, String numbers) throws Exception {
        Object[] arguments = numbers.isEmpty() ? new Object[0] : Arrays.stream(numbers.split(", ")).map(Integer::valueOf).toArray();
        Class<?>[] types = new Class<?>[arguments.length];
        Arrays.fill(types, int.class);
        FootnoteFishery.class.getMethod(name, types).invoke(x, arguments);
    }

    // ---- the files

    private static void filesExist() {
        for (MatchResult name : all(FILE_NAME, readme)) {
            String path = name.group().replace("/.java", "");
            Check.that("there is " + path, Files.exists(Path.of(path)));
        }
    }

    private static void testsAreNamed() throws IOException {
        Set<String> named = new TreeSet<>();
        for (MatchResult name : all(TEST_NAME, readme)) {
            named.add(name.group() + ".java");
        }
        Set<String> found = new TreeSet<>();
        try (Stream<Path> files = Files.list(TESTS)) {
            files.map(file -> file.getFileName().toString()).filter(name -> name.endsWith("Test.java")).forEach(found::add);
        }
        Check.same("names of tests", named.toString(), found.toString());
    }
}
