import java.io.IOException;
import java.lang.reflect.Method;
import java.nio.file.Files;
import java.nio.file.Path;
import java.util.ArrayList;
import java.util.List;
import java.util.TreeSet;
import java.util.concurrent.TimeUnit;
import java.util.regex.Matcher;
import java.util.regex.Pattern;
import java.util.stream.Stream;

/** Follows README.md as a reader would, in a directory of its own, and compares what comes with what it names. */
public final class ReadmeTest {
    private static final Due DUE = new Due();
    private static final Pattern TOUR_CALL =
        Pattern.compile("System\\.out\\.println\\(heap\\.(.*)\\);\\s*// ([^:]*).*");
    private static final int MOST_SECONDS = 120;

    private record Run(int exitCode, List<String> lines) {
    }

    public static void main(String[] args) throws IOException, InterruptedException {
        String readme = Files.readString(Path.of("README.md"));
        Path checkout = checkoutOfItsOwn();
        try {
            tourGivesTheAnswersItNames(readme, checkout);
            oneTestAloneEndsAsNamed(readme, checkout);
            testsAreNamed(readme);
            filesAreThere(readme);
        } finally {
            remove(checkout.getParent());
        }
        DUE.end();
    }

    /** Beside it lies ../shared, as beside the real one. */
    private static Path checkoutOfItsOwn() throws IOException {
        Path around = Files.createTempDirectory("readme");
        Path checkout = Files.createDirectory(around.resolve("main"));
        Files.createSymbolicLink(around.resolve("shared"), Path.of("../shared").toRealPath());
        Files.createSymbolicLink(checkout.resolve("src"), Path.of("src").toRealPath());
        return checkout;
    }

    private static void tourGivesTheAnswersItNames(String readme, Path checkout)
            throws IOException, InterruptedException {
        DUE.promise("README.md, the tour");
        String tour = blocks(readme, "java").get(0);
        Files.writeString(checkout.resolve("Tour.java"), tour);
        List<String> named = new ArrayList<>();
        TreeSet<String> called = new TreeSet<>();
        for (String line : tour.split("\n")) {
            Matcher call = TOUR_CALL.matcher(line.trim());
            DUE.is("an answer behind " + line.trim(), call.matches() ? 1 : 0, line.contains("println") ? 1 : 0);
            if (call.matches()) {
                called.add(call.group(1).replaceAll("\\(.*", ""));
                named.add(call.group(2).trim());
            }
        }
        DUE.same("methods called", called.toString(), methods().toString());
        Run run = follow(blocks(readme, "sh").get(0), checkout);
        DUE.same("what git leaves out", Files.readString(Path.of(".gitignore")), "build/\nTour.java\n");
        DUE.is("exit code", run.exitCode(), 0);
        DUE.same("answers", String.join("\n", run.lines()), String.join("\n", named));
    }

    private static TreeSet<String> methods() {
        TreeSet<String> names = new TreeSet<>();
        for (Method method : ResurrectingHeap.class.getMethods()) {
            if (method.getDeclaringClass() == ResurrectingHeap.class) {
                names.add(method.getName());
            }
        }
        return names;
    }

    private static void oneTestAloneEndsAsNamed(String readme, Path checkout) throws IOException, InterruptedException {
        DUE.promise("README.md, one test alone");
        DUE.same("the command for all tests", blocks(readme, "sh").get(1), ".ci/run\n");
        DUE.yes(".ci/run can be run", Files.isExecutable(Path.of(".ci/run")));
        Run run = follow(blocks(readme, "sh").get(2), checkout);
        DUE.is("exit code", run.exitCode(), 0);
        String last = run.lines().isEmpty() ? "" : run.lines().get(run.lines().size() - 1);
        boolean named = readme.contains("and ends with `" + last + "` and exit code 0.");
        DUE.yes("the last line, " + last + ", is named", named);
    }

    /** The table has a row for each test of the project, and no other. */
    private static void testsAreNamed(String readme) throws IOException {
        DUE.promise("README.md, the table of tests");
        TreeSet<String> named = new TreeSet<>();
        Matcher row = Pattern.compile("(?m)^\\| `(\\w+)` \\|").matcher(readme);
        while (row.find()) {
            named.add(row.group(1));
        }
        TreeSet<String> there = new TreeSet<>();
        try (Stream<Path> files = Files.list(Path.of("src/test/java"))) {
            files.map(file -> file.getFileName().toString()).filter(name -> name.endsWith("Test.java"))
                .forEach(name -> there.add(name.replace(".java", "")));
        }
        DUE.same("tests", named.toString(), there.toString());
    }

    /** A name between backticks that is a path, or looks like a class of the tests, is there. */
    private static void filesAreThere(String readme) {
        DUE.promise("README.md, names of files");
        Matcher name = Pattern.compile("`([\\w./]+)`").matcher(readme.replaceAll("(?s)```.*?```", ""));
        while (name.find()) {
            String what = name.group(1);
            boolean path = what.contains("/");
            boolean helper = what.matches("[A-Z][a-z]+(Test|Bounds|Model)|Trial|Insight|Picture|Way");
            if (path || helper) {
                DUE.yes(what + " is there", Files.exists(Path.of(path ? what : "src/test/java/" + what + ".java")));
            }
        }
    }

    private static List<String> blocks(String readme, String language) {
        List<String> found = new ArrayList<>();
        Matcher block = Pattern.compile("(?s)```" + language + "\n(.*?)```").matcher(readme);
        while (block.find()) {
            found.add(block.group(1));
        }
        return found;
    }

    /** Runs each line, as long as none fails; answers what the last one printed. */
    private static Run follow(String commands, Path checkout) throws IOException, InterruptedException {
        Run last = new Run(0, List.of());
        for (String command : commands.split("\n")) {
            if (last.exitCode() == 0) {
                last = run(command.split(" "), checkout);
            }
        }
        return last;
    }

    private static Run run(String[] words, Path checkout) throws IOException, InterruptedException {
        Path printed = checkout.resolve("printed");
        Process process = new ProcessBuilder(words).directory(checkout.toFile())
            .redirectErrorStream(true).redirectOutput(printed.toFile()).start();
        if (!process.waitFor(MOST_SECONDS, TimeUnit.SECONDS)) {
            process.destroyForcibly().waitFor();
        }
        return new Run(process.exitValue(), Files.readAllLines(printed));
    }

    /** Links are removed, not what they lead to. */
    private static void remove(Path around) throws IOException {
        List<Path> all;
        try (Stream<Path> files = Files.walk(around)) {
            all = new ArrayList<>(files.toList());
        }
        for (int i = all.size() - 1; i >= 0; i--) {
            Files.delete(all.get(i));
        }
    }
}
