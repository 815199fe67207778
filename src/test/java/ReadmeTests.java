import java.io.ByteArrayOutputStream;
import java.io.IOException;
import java.io.PrintStream;
import java.net.URL;
import java.net.URLClassLoader;
import java.nio.file.Files;
import java.nio.file.Path;
import java.util.List;
import java.util.TreeSet;
import java.util.regex.Matcher;
import java.util.regex.Pattern;
import java.util.stream.Collectors;
import java.util.stream.Stream;
import javax.tools.ToolProvider;

/** What README.md says is so: its example prints what stands behind each line, and it names all tests. */
public final class ReadmeTests {
    private static final Pattern PRINTED = Pattern.compile("System\\.out\\.println\\(.*\\); *// (-?[0-9]+)");
    private static int wrong = 0;

    public static void main(String[] args) throws Exception {
        String readme = Files.readString(Path.of("README.md"));
        String example = between(readme, "```java\n", "```");
        List<String> due = PRINTED.matcher(example).results().map(found -> found.group(1)).collect(Collectors.toList());
        is("what the example prints", printedBy(example), due);
        is("lines that print", due.size(), (int) example.lines().filter(line -> line.contains("println")).count());
        is("the tests that are named", named(readme), tests());
        for (Class<?> part : Class.forName("AttributeHouse").getDeclaredClasses()) {
            String how = between(readme, "## How it is made", "##");
            is("what is said of " + part.getSimpleName(), how.contains("`" + part.getSimpleName() + "`"), true);
        }
        System.out.println(due.size() + " lines of the example, " + wrong + " wrong");
        if (wrong != 0 || due.isEmpty()) {
            System.exit(1);
        }
    }

    private static void is(String what, Object got, Object want) {
        if (!got.equals(want)) {
            wrong++;
            System.out.println(what + ": " + got + ", due is " + want);
        }
    }

    private static String between(String text, String from, String to) {
        int first = text.indexOf(from) + from.length();
        return text.substring(first, text.indexOf(to, first));
    }

    private static List<String> printedBy(String example) throws Exception {
        Path dir = Files.createTempDirectory("example");
        Path source = dir.resolve("Example.java");
        Files.writeString(source, example);
        int answer = ToolProvider.getSystemJavaCompiler().run(null, null, null, "-d", dir.toString(),
                "src/main/java/AttributeHouse.java", source.toString());
        is("javac's answer", answer, 0);
        ByteArrayOutputStream printed = new ByteArrayOutputStream();
        PrintStream before = System.out;
        System.setOut(new PrintStream(printed));
        try (URLClassLoader loader = new URLClassLoader(new URL[] {dir.toUri().toURL()}, null)) {
            loader.loadClass("Example").getMethod("main", String[].class).invoke(null, (Object) new String[0]);
        } finally {
            System.setOut(before);
            remove(dir);
        }
        return printed.toString().lines().collect(Collectors.toList());
    }

    private static void remove(Path dir) throws IOException {
        try (Stream<Path> files = Files.list(dir)) {
            for (Path file : files.collect(Collectors.toList())) {
                Files.delete(file);
            }
        }
        Files.delete(dir);
    }

    private static TreeSet<String> named(String readme) {
        TreeSet<String> names = new TreeSet<>();
        Matcher m = Pattern.compile("`([A-Za-z]+Tests)`").matcher(readme);
        while (m.find()) {
            names.add(m.group(1));
        }
        return names;
    }

    private static TreeSet<String> tests() throws IOException {
        try (Stream<Path> files = Files.list(Path.of("src/test/java"))) {
            return files.map(file -> file.getFileName().toString().replace(".java", ""))
                    .collect(Collectors.toCollection(TreeSet::new));
        }
    }
}
