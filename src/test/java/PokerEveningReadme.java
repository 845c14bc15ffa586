import java.lang.reflect.Method;
import java.lang.reflect.Modifier;
import java.net.URL;
import java.net.URLClassLoader;
import java.nio.charset.StandardCharsets;
import java.nio.file.DirectoryStream;
import java.nio.file.Files;
import java.nio.file.Path;
import java.util.ArrayList;
import java.util.List;
import java.util.Set;
import java.util.TreeSet;
import java.util.regex.Matcher;
import java.util.regex.Pattern;
import javax.tools.JavaCompiler;
import javax.tools.ToolProvider;

/**
 * README.md holds: its examples compile and answer as they say, each call of the face is in an example and in
 * the list of calls with the refusals that the document gives it, and each test of the project is named.
 */
public final class PokerEveningReadme {
    private static final Path README = Path.of("README.md");
    private static final Path DOCUMENT = Path.of("../shared/DOC.md");
    private static final Path TESTS = Path.of("src/test/java");
    private static final String CONSTANT = "BAD|NO|FULL|NONE";
    /** A call at the start of a row, and the answer that the row says. */
    private static final Pattern CALL = Pattern.compile("(x\\.\\w+\\([^;]*\\));\\s*// (-?\\d+|" + CONSTANT + ")\\b.*");
    private static int wrong = 0;
    private static int answers = 0;

    /** The compiled examples call this one. */
    public static void due(String call, int got, int want) {
        answers++;
        must(got == want, call + " answered " + got + ", README.md says " + want);
    }

    private static void must(boolean holds, String what) {
        if (!holds) {
            wrong++;
            System.out.println("not so: " + what);
        }
    }

    public static void main(String[] args) throws Exception {
        String readme = Files.readString(README, StandardCharsets.US_ASCII);
        List<String> examples = examples(readme);
        must(!examples.isEmpty(), "README.md has examples");
        run(examples);
        exampleOfEachCall(String.join("\n", examples));
        constants(readme);
        listOfCalls(readme, Files.readString(DOCUMENT, StandardCharsets.UTF_8));
        tests(readme);
        System.out.println(answers + " answers of README.md, " + wrong + " things are not as due");
        if (wrong != 0) {
            System.exit(1);
        }
    }

    private static List<String> examples(String readme) {
        List<String> found = new ArrayList<>();
        Matcher block = Pattern.compile("(?s)```java\n(.*?)```").matcher(readme);
        while (block.find()) {
            found.add(block.group(1));
        }
        return found;
    }

    private static void run(List<String> examples) throws Exception {
        Path folder = Files.createTempDirectory("readme");
        Path source = folder.resolve("ReadmeExamples.java");
        try {
            Files.writeString(source, program(examples));
            JavaCompiler compiler = ToolProvider.getSystemJavaCompiler();
            String classes = System.getProperty("java.class.path");
            boolean compiled = compiler != null
                    && compiler.run(null, null, null, "-cp", classes, "-d", folder.toString(), source.toString()) == 0;
            must(compiled, "the examples compile");
            if (compiled) {
                runClass(folder);
            }
        } finally {
            Files.deleteIfExists(source);
            Files.deleteIfExists(folder.resolve("ReadmeExamples.class"));
            Files.delete(folder);
        }
    }

    private static void runClass(Path folder) throws Exception {
        try (URLClassLoader loader = new URLClassLoader(new URL[] {folder.toUri().toURL()})) {
            loader.loadClass("ReadmeExamples").getMethod("run").invoke(null);
        }
    }

    private static String program(List<String> examples) {
        StringBuilder program = new StringBuilder("public final class ReadmeExamples {\n    public static void run() {\n");
        for (String example : examples) {
            program.append("    {\n");
            for (String row : example.split("\n")) {
                program.append(checked(row)).append('\n');
            }
            program.append("    }\n");
        }
        return program.append("    }\n}\n").toString();
    }

    /** A row whose call says its answer is made one that looks at it; calls inside a loop say none. */
    private static String checked(String row) {
        Matcher call = CALL.matcher(row);
        if (call.matches()) {
            String answer = call.group(2).matches(CONSTANT) ? "PokerEvening." + call.group(2) : call.group(2);
            return "PokerEveningReadme.due(\"" + call.group(1) + "\", " + call.group(1) + ", " + answer + ");";
        }
        must(!row.startsWith("x."), "the row says an answer: " + row);
        return row;
    }

    private static void exampleOfEachCall(String examples) {
        for (String name : callsOfTheFace()) {
            must(examples.contains("x." + name + "("), "an example of " + name);
        }
    }

    private static void constants(String readme) throws Exception {
        for (String name : CONSTANT.split("\\|")) {
            int number = PokerEvening.class.getField(name).getInt(null);
            must(readme.contains("| `" + name + "` | " + number + " |"), name + " is " + number);
        }
    }

    private static void listOfCalls(String readme, String document) {
        Set<String> listed = new TreeSet<>();
        Matcher row = Pattern.compile("\n\\| `(\\w+)\\(([^)]*)\\)` \\| [^|]+ \\|([^|]*)\\|").matcher(readme);
        while (row.find()) {
            String name = row.group(1);
            listed.add(name + "(" + row.group(2) + ")");
            must(constantsIn(row.group(3)).equals(constantsIn(promiseOf(document, name))), "the refusals of " + name);
        }
        must(listed.equals(callsOf(document)), "the list of calls has just those of the document: " + listed);
        must(listed.size() == callsOfTheFace().size(), "the list of calls has just those of the class");
    }

    private static Set<String> constantsIn(String words) {
        Set<String> found = new TreeSet<>();
        Matcher word = Pattern.compile("\\b(" + CONSTANT + ")\\b").matcher(words);
        while (word.find()) {
            found.add(word.group(1));
        }
        return found;
    }

    private static String promiseOf(String document, String name) {
        Matcher promise = Pattern.compile("\n`int " + name + "\\([^`]*`:([^\n]*)").matcher(document);
        return promise.find() ? promise.group(1) : "";
    }

    /** The calls under the headings of the promises, with the names of their numbers. */
    private static Set<String> callsOf(String document) {
        Set<String> calls = new TreeSet<>();
        Matcher promise = Pattern.compile("\n`int (\\w+\\([^`]*\\))`:").matcher(document);
        while (promise.find()) {
            calls.add(promise.group(1).replace("int ", ""));
        }
        return calls;
    }

    private static Set<String> callsOfTheFace() {
        Set<String> names = new TreeSet<>();
        for (Method method : PokerEvening.class.getDeclaredMethods()) {
            if (Modifier.isPublic(method.getModifiers())) {
                names.add(method.getName());
            }
        }
        return names;
    }

    private static void tests(String readme) throws Exception {
        try (DirectoryStream<Path> files = Files.newDirectoryStream(TESTS, "*.java")) {
            for (Path file : files) {
                String name = file.getFileName().toString().replace(".java", "");
                must(readme.contains("\n- `" + name + "`: "), "README.md says what " + name + " looks at");
            }
        }
        Matcher named = Pattern.compile("\n- `(\\w+)`: ").matcher(readme);
        while (named.find()) {
            must(Files.exists(TESTS.resolve(named.group(1) + ".java")), "there is a test " + named.group(1));
        }
    }
}
