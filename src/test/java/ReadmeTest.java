import java.io.IOException;
import java.net.URL;
import java.net.URLClassLoader;
import java.nio.file.Files;
import java.nio.file.Path;
import java.nio.file.attribute.PosixFilePermission;
import java.util.ArrayList;
import java.util.Comparator;
import java.util.List;
import java.util.TreeSet;
import java.util.regex.Matcher;
import java.util.regex.Pattern;
import java.util.stream.Stream;

/** README.md against the class and the tests as they stand. Run from the project's folder. */
public final class ReadmeTest {
    private static final String CLASS = "src/main/java/MapleLines.java";
    private static final Path TESTS = Path.of("src/test/java");
    /** A call of the sample, and the answer that the comment behind it begins with. */
    private static final Pattern TOLD =
            Pattern.compile("(bush\\.\\w+\\([^;]*\\));( *// (-?\\d+|true|false)\\b)");

    private static int told = 0;

    public static void main(String[] args) throws Exception {
        String readme = Files.readString(Path.of("README.md"));
        Path folder = Files.createTempDirectory("readme");
        try {
            dueAnswers(onlyOf(blocks(readme, "java")), folder);
            dueCommands(readme, folder);
            dueCalls(readme);
            dueTests(readme);
            dueRun(readme);
        } finally {
            remove(folder);
        }
        Check.end();
    }

    private static List<String> blocks(String readme, String language) {
        List<String> found = new ArrayList<>();
        Matcher block = Pattern.compile("(?s)```" + language + "\n(.*?)```").matcher(readme);
        while (block.find()) {
            found.add(block.group(1));
        }
        return found;
    }

    private static String onlyOf(List<String> blocks) {
        Check.due("samples", blocks.size(), 1);
        return blocks.isEmpty() ? "" : blocks.get(0);
    }

    /** Compiles the sample with each told call handed to told(), and runs it. */
    private static void dueAnswers(String sample, Path folder) throws Exception {
        Path source = Files.createDirectory(folder.resolve("told")).resolve("Sugaring.java");
        Files.writeString(source,
                TOLD.matcher(sample).replaceAll("ReadmeTest.told(\"$1\", $1, $3);$2"));
        int failed = run(Path.of(""), "javac", "--release", "17", "-Xlint:all", "-Werror", "-cp",
                System.getProperty("java.class.path"), "-d", source.getParent().toString(),
                source.toString());
        Check.due("compiling the sample", failed, 0);
        if (failed != 0) {
            return;
        }
        URL[] place = {source.getParent().toUri().toURL()};
        try (URLClassLoader loader = new URLClassLoader(place, ReadmeTest.class.getClassLoader())) {
            loader.loadClass("Sugaring").getMethod("main", String[].class)
                    .invoke(null, (Object) new String[0]);
        }
        Check.due("calls that the sample tells of", told, callsButFeed(sample));
    }

    /** Every call but feed, which is called in a loop, has its answer behind it. */
    private static int callsButFeed(String sample) {
        int calls = 0;
        Matcher call = Pattern.compile("bush\\.(\\w+)\\(").matcher(sample);
        while (call.find()) {
            calls += call.group(1).equals("feed") ? 0 : 1;
        }
        return calls;
    }

    public static int told(String call, int got, int want) {
        told++;
        Check.due("README.md: " + call, got, want);
        return got;
    }

    public static boolean told(String call, boolean got, boolean want) {
        told++;
        Check.due("README.md: " + call, got, want);
        return got;
    }

    /** Runs what README.md says to type, but for .ci/run, in a folder such as it tells of. */
    private static void dueCommands(String readme, Path folder) throws Exception {
        Path place = Files.createDirectory(folder.resolve("typed"));
        copyFile(Path.of(CLASS), place);
        for (Path test : testFiles()) {
            copyFile(test, place);
        }
        Files.writeString(place.resolve("Sugaring.java"), onlyOf(blocks(readme, "java")));
        List<String> typed = blocks(readme, "sh");
        Check.due("README.md says to type .ci/run", typed.remove(".ci/run\n"), true);
        Check.due("other commands", typed.size(), 2);
        for (String commands : typed) {
            Check.due("README.md: " + commands, run(place, "sh", "-e", "-c", commands), 0);
        }
    }

    private static int run(Path place, String... command) throws Exception {
        return new ProcessBuilder(command).directory(place.toAbsolutePath().toFile()).inheritIO()
                .start().waitFor();
    }

    private static void copyFile(Path file, Path into) throws IOException {
        Path copy = into.resolve(file);
        Files.createDirectories(copy.getParent());
        Files.copy(file, copy);
    }

    private static List<Path> testFiles() throws IOException {
        try (Stream<Path> files = Files.list(TESTS)) {
            return files.filter(file -> file.toString().endsWith(".java")).sorted().toList();
        }
    }

    /** Each public method stands in the table of calls, with the class's own parameters. */
    private static void dueCalls(String readme) throws IOException {
        Matcher method = Pattern.compile("(?m)^    public (?:int|boolean) (\\w+)\\((.*)\\) \\{$")
                .matcher(Files.readString(Path.of(CLASS)));
        TreeSet<String> methods = new TreeSet<>();
        while (method.find()) {
            methods.add(method.group(1) + "(" + method.group(2).replace("int ", "") + ")");
        }
        TreeSet<String> rows = firstCells(readme, "[a-z]\\w*\\([^`]*\\)");
        Check.due("calls are " + methods + ", README.md has " + rows, rows.equals(methods), true);
    }

    private static void dueTests(String readme) throws IOException {
        TreeSet<String> tests = new TreeSet<>();
        for (Path file : testFiles()) {
            String name = file.getFileName().toString().replace(".java", "");
            if (name.endsWith("Test")) {
                tests.add(name);
            } else {
                Check.due("README.md tells of " + name, readme.contains("`" + name + "`"), true);
            }
        }
        TreeSet<String> rows = firstCells(readme, "\\w+Test");
        Check.due("tests are " + tests + ", README.md has " + rows, rows.equals(tests), true);
    }

    private static TreeSet<String> firstCells(String readme, String form) {
        TreeSet<String> found = new TreeSet<>();
        Matcher row = Pattern.compile("(?m)^\\| (`[^|]*`) \\|").matcher(readme);
        while (row.find()) {
            Matcher name = Pattern.compile("`(" + form + ")`").matcher(row.group(1));
            while (name.find()) {
                found.add(name.group(1));
            }
        }
        return found;
    }

    /** The command that compiles the tests is the same in README.md and .ci/run. */
    private static void dueRun(String readme) throws IOException {
        Path run = Path.of(".ci/run");
        Check.due(".ci/run can be run", Files.getPosixFilePermissions(run)
                .contains(PosixFilePermission.OWNER_EXECUTE), true);
        String script = Files.readString(run);
        Check.due("the class in .ci/run", script.contains("\nclass=" + CLASS + "\n"), true);
        Matcher compile = Pattern.compile("(?m)^javac .* src/test/.*$").matcher(readme);
        boolean found = compile.find();
        Check.due("README.md compiles the tests", found, true);
        String typed = found ? compile.group() : "";
        String same = typed.replace("-d out", "-d \"$out/project\"").replace(CLASS, "\"$class\"");
        Check.due(".ci/run: " + same, script.contains("\n" + same + "\n"), true);
    }

    private static void remove(Path folder) throws IOException {
        try (Stream<Path> files = Files.walk(folder)) {
            for (Path file : files.sorted(Comparator.reverseOrder()).toList()) {
                Files.delete(file);
            }
        }
    }
}
