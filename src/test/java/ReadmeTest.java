import java.io.ByteArrayOutputStream;
import java.io.File;
import java.lang.reflect.Method;
import java.lang.reflect.Modifier;
import java.nio.charset.StandardCharsets;
import java.nio.file.Files;
import java.nio.file.Path;
import java.util.Comparator;
import java.util.Set;
import java.util.TreeSet;
import java.util.regex.Matcher;
import java.util.regex.Pattern;
import java.util.stream.Stream;

/** README.md's example compiles and prints what stands there; its table names every call. It runs from the root. */
public final class ReadmeTest {
    private static int wrong;

    public static void main(String[] args) throws Exception {
        String readme = Files.readString(Path.of("README.md"));
        example(block(readme, "java"), block(readme, "text"));
        calls(readme);
        tests(readme);
        if (wrong != 0) {
            System.exit(1);
        }
    }

    private static String block(String readme, String kind) {
        Matcher blocks = Pattern.compile("(?s)```" + kind + "\n(.*?)```").matcher(readme);
        return blocks.find() ? blocks.group(1) : "";
    }

    private static void example(String program, String due) throws Exception {
        Path place = Files.createTempDirectory("readme");
        try {
            Path source = Files.writeString(place.resolve("Example.java"), program);
            String path = System.getProperty("java.class.path");
            String got = run("javac", "-cp", path, "-d", place.toString(), source.toString())
                + run("java", "-cp", path + File.pathSeparator + place, "Example");
            check(!due.isEmpty() && got.equals(due), "the example prints\n" + got + "where README.md has\n" + due);
        } finally {
            try (Stream<Path> all = Files.walk(place)) {
                all.sorted(Comparator.reverseOrder()).forEach(one -> one.toFile().delete());
            }
        }
    }

    private static String run(String tool, String... arguments) throws Exception {
        String[] command = new String[arguments.length + 1];
        command[0] = tool;
        System.arraycopy(arguments, 0, command, 1, arguments.length);
        Process process = new ProcessBuilder(command).redirectErrorStream(true).start();
        ByteArrayOutputStream said = new ByteArrayOutputStream();
        process.getInputStream().transferTo(said);
        process.waitFor();
        return said.toString(StandardCharsets.UTF_8);
    }

    /** The table has each public method, with as many arguments as it takes, and none that isn't there. */
    private static void calls(String readme) {
        Set<String> due = new TreeSet<>();
        for (Method method : LoanNames.class.getDeclaredMethods()) {
            if (Modifier.isPublic(method.getModifiers())) {
                due.add(method.getName() + " of " + method.getParameterCount());
            }
        }
        Set<String> got = new TreeSet<>();
        Matcher rows = Pattern.compile("(?m)^\\| (`\\w+\\([^|]*) \\|").matcher(readme);
        while (rows.find()) {
            Matcher calls = Pattern.compile("`(\\w+)\\(([^)]*)\\)`").matcher(rows.group(1));
            while (calls.find()) {
                String arguments = calls.group(2);
                got.add(calls.group(1) + " of " + (arguments.isEmpty() ? 0 : arguments.split(",").length));
            }
        }
        check(got.equals(due), "README.md has the calls " + got + ", due are " + due);
    }

    private static void tests(String readme) throws Exception {
        try (Stream<Path> all = Files.list(Path.of("src/test/java"))) {
            all.map(one -> one.getFileName().toString().replace(".java", "")).forEach(name ->
                check(readme.contains("`" + name + "`"), "README.md doesn't tell of " + name));
        }
    }

    private static void check(boolean holds, String what) {
        if (!holds) {
            wrong++;
            System.out.println(what);
        }
    }
}
