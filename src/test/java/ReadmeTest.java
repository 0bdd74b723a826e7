import java.io.ByteArrayOutputStream;
import java.io.File;
import java.io.IOException;
import java.io.PrintStream;
import java.lang.reflect.Method;
import java.lang.reflect.Modifier;
import java.net.URL;
import java.net.URLClassLoader;
import java.nio.charset.StandardCharsets;
import java.nio.file.Files;
import java.nio.file.Path;
import java.nio.file.Paths;
import java.util.ArrayList;
import java.util.Comparator;
import java.util.List;
import java.util.Set;
import java.util.TreeSet;
import java.util.regex.Matcher;
import java.util.regex.Pattern;
import java.util.stream.Stream;
import javax.tools.ToolProvider;

/** README.md: its examples compile and answer as it tells, and what it names is there. */
public final class ReadmeTest {
    private static final Path README = Paths.get("README.md");
    private static final Path TESTS = Paths.get("src/test/java");
    private static final Path BUILD = Paths.get("build");
    private static final Path CLASS = Paths.get("src/main/java/VotesUntouched.java");
    private static final Pattern CALL = Pattern.compile("(council\\.(\\w+)\\(.*\\));");
    private static final Pattern TOLD = Pattern.compile(CALL + "\\s*// (-?\\d+)(?:: .*)?");

    private static int checks;
    private static int wrong;

    private ReadmeTest() {
    }

    private static void due(String what, boolean holds) {
        checks++;
        if (!holds) {
            wrong++;
            System.out.println("the README: not so: " + what);
        }
    }

    public static void main(String[] args) throws Exception {
        String text = Files.readString(README, StandardCharsets.UTF_8);
        List<String> examples = new ArrayList<>();
        Matcher block = Pattern.compile("(?s)```java\n(.*?)```").matcher(text);
        while (block.find()) {
            examples.add(block.group(1));
        }
        due("there are examples", examples.size() > 1);
        Files.createDirectories(BUILD);
        Path folder = Files.createTempDirectory(BUILD, "readme");
        try {
            for (int i = 0; i < examples.size(); i++) {
                example(examples.get(i), folder.resolve("example" + i));
            }
            commands(text, examples.get(0), folder.resolve("commands"));
        } finally {
            remove(folder);
        }
        everyCall(String.join("", examples));
        answers(text);
        classes(text);
        tests(text);
        System.out.println("the README: " + examples.size() + " examples, " + checks + " checks, " + wrong + " wrong");
        if (wrong != 0) {
            System.exit(1);
        }
    }

    private static void remove(Path folder) throws IOException {
        try (Stream<Path> all = Files.walk(folder)) {
            all.sorted(Comparator.reverseOrder()).map(Path::toFile).forEach(File::delete);
        }
    }

    private static String mine(String body) {
        return "public final class Mine {\n    public static void main(String[] args) {\n" + body + "    }\n}\n";
    }

    private static boolean compiles(Path out, String... with) {
        List<String> all = new ArrayList<>(List.of("-Xlint:all", "-Werror", "-d", out.toString()));
        all.addAll(List.of(with));
        ByteArrayOutputStream said = new ByteArrayOutputStream();
        boolean done = ToolProvider.getSystemJavaCompiler().run(null, said, said, all.toArray(new String[0])) == 0;
        if (!done) {
            System.out.println(said);
        }
        return done;
    }

    /** As it stands it compiles; with each answer printed, the answers are those that are told. */
    private static void example(String body, Path folder) throws Exception {
        Files.createDirectories(folder.resolve("plain"));
        Path file = folder.resolve("Mine.java");
        Files.writeString(file, mine(body));
        due("it compiles: " + body, compiles(folder.resolve("plain"), CLASS.toString(), file.toString()));
        StringBuilder asked = new StringBuilder();
        List<String> calls = new ArrayList<>();
        List<String> told = new ArrayList<>();
        for (String line : body.split("\n")) {
            Matcher m = TOLD.matcher(line);
            if (m.matches()) {
                asked.append("System.out.println(").append(m.group(1)).append(");\n");
                calls.add(m.group(1));
                told.add(m.group(3));
            } else {
                due("an answer is told of " + line, !CALL.matcher(line).lookingAt());
                asked.append(line).append('\n');
            }
        }
        Files.writeString(file, mine(asked.toString()));
        Path out = folder.resolve("asked");
        Files.createDirectories(out);
        if (!compiles(out, CLASS.toString(), file.toString())) {
            due("it compiles with its answers printed: " + body, false);
            return;
        }
        List<String> got = printedBy(out);
        due("as many answers as told: " + got.size(), got.size() == told.size());
        for (int i = 0; i < told.size() && i < got.size(); i++) {
            due(calls.get(i) + " answers " + told.get(i) + ", but " + got.get(i), told.get(i).equals(got.get(i)));
        }
    }

    private static List<String> printedBy(Path out) throws Exception {
        PrintStream screen = System.out;
        ByteArrayOutputStream printed = new ByteArrayOutputStream();
        // No loader above, so that the class is the one compiled here.
        try (URLClassLoader loader = new URLClassLoader(new URL[] {out.toUri().toURL()}, ClassLoader.getPlatformClassLoader())) {
            System.setOut(new PrintStream(printed, true));
            loader.loadClass("Mine").getMethod("main", String[].class).invoke(null, (Object) new String[0]);
        } finally {
            System.setOut(screen);
        }
        return printed.toString().lines().toList();
    }

    /** The two commands of the use, run as they stand, in a folder with the class where they have it. */
    private static void commands(String text, String example, Path folder) throws Exception {
        Matcher m = Pattern.compile("    (javac .*)\n    (java .*)\n").matcher(text);
        due("two commands are told", m.find());
        Path there = folder.resolve(CLASS);
        Files.createDirectories(there.getParent());
        Files.copy(CLASS, there);
        Files.writeString(folder.resolve("Mine.java"), mine(example));
        for (int i = 1; i <= 2; i++) {
            due(m.group(i), new ProcessBuilder(m.group(i).split(" ")).directory(folder.toFile()).inheritIO().start().waitFor() == 0);
        }
    }

    private static Set<String> found(String pattern, String text) {
        Set<String> all = new TreeSet<>();
        Matcher m = Pattern.compile(pattern).matcher(text);
        while (m.find()) {
            all.add(m.group(1));
        }
        return all;
    }

    private static void everyCall(String examples) {
        Set<String> face = new TreeSet<>();
        for (Method m : VotesUntouched.class.getDeclaredMethods()) {
            if (Modifier.isPublic(m.getModifiers())) {
                face.add(m.getName());
            }
        }
        Set<String> shown = found("council\\.(\\w+)\\(", examples);
        due("each call of the face is in an example: " + shown + " of " + face, shown.equals(face));
    }

    private static void answers(String text) throws ReflectiveOperationException {
        Matcher m = Pattern.compile("\\| `([A-Z]+)` (-\\d+) \\|").matcher(text);
        int found = 0;
        while (m.find()) {
            found++;
            due(m.group(1) + " is " + m.group(2), VotesUntouched.class.getField(m.group(1)).getInt(null) == Integer.parseInt(m.group(2)));
        }
        due("BAD, NOT, FULL, STATE are told", found == 4);
    }

    private static void classes(String text) {
        String built = text.substring(text.indexOf("## How it is built"), text.indexOf("## How to run its tests"));
        Set<String> inside = new TreeSet<>();
        for (Class<?> c : VotesUntouched.class.getDeclaredClasses()) {
            inside.add(c.getSimpleName());
        }
        Set<String> told = found("\\| `(\\w+)` \\|", built);
        due("the classes inside are " + inside + ", told " + told, told.equals(inside));
    }

    private static void tests(String text) throws IOException {
        String run = text.substring(text.indexOf("## How to run its tests"));
        Set<String> there = new TreeSet<>();
        Set<String> parts = new TreeSet<>();
        try (Stream<Path> files = Files.list(TESTS)) {
            files.map(f -> f.getFileName().toString().replace(".java", "")).forEach(n -> (n.endsWith("Test") ? there : parts).add(n));
        }
        Set<String> told = found("(?m)^- `(\\w+)`:", run);
        due("the tests are " + there + ", told " + told, told.equals(there));
        for (String name : found("java -cp build/(\\w+) ", run)) {
            due("there is a test " + name, there.contains(name));
        }
        Set<String> named = found("`(\\w+\\*?)\\.java`", run);
        for (String part : parts) {
            due(part + " is told", named.stream().anyMatch(n -> part.matches(n.replace("*", ".*"))));
        }
        for (String name : named) {
            due("there is a " + name, parts.stream().anyMatch(p -> p.matches(name.replace("*", ".*"))));
        }
        due(".ci/run is told, and can be run", run.contains("    .ci/run\n") && Files.isExecutable(Paths.get(".ci/run")));
    }
}
