import java.io.IOException;
import java.lang.reflect.Method;
import java.lang.reflect.Modifier;
import java.nio.charset.StandardCharsets;
import java.nio.file.Files;
import java.nio.file.Path;
import java.util.ArrayList;
import java.util.List;
import java.util.TreeSet;
import java.util.regex.Matcher;
import java.util.regex.Pattern;
import java.util.stream.Stream;

/** What README.md says of the class and of its tests is so; it is run from the folder of that page. */
public final class ReadmeTest {
    private static final Path PAGE = Path.of("README.md");
    private static final Path EXAMPLE = Path.of("src/example/java/Example.java");
    private static final Path TESTS = Path.of("src/test/java");
    private static final Path RUN = Path.of(".ci/run");

    private static int wrong = 0;

    public static void main(String[] args) throws IOException, InterruptedException {
        String page = Files.readString(PAGE);
        List<String> programs = blocks(page, "java");
        List<String> commands = blocks(page, "sh");
        due("programs on the page", programs.size(), 1);
        due("blocks of commands on the page", commands.size(), 3);
        if (wrong == 0) {
            due("the program on the page is that of " + EXAMPLE,
                    programs.get(0).equals(Files.readString(EXAMPLE)), true);
            commandsRun(commands, answersShown(programs.get(0)));
        }
        namesTests(page);
        namesMethods(page);
        System.out.println(wrong == 0 ? "all that README.md says is so" : wrong + " things are not so");
        if (wrong != 0) {
            System.exit(1);
        }
    }

    private static void due(String what, Object got, Object want) {
        if (!want.equals(got)) {
            wrong++;
            System.out.println(what + ": " + got + ", due is " + want);
        }
    }

    private static List<String> blocks(String page, String language) {
        List<String> found = new ArrayList<>();
        Matcher block = Pattern.compile("^```" + language + "\\n(.*?)^```$", Pattern.DOTALL | Pattern.MULTILINE)
                .matcher(page);
        while (block.find()) {
            found.add(block.group(1));
        }
        return found;
    }

    /** What stands behind each line that prints. */
    private static List<String> answersShown(String program) {
        List<String> answers = new ArrayList<>();
        for (String line : program.split("\n")) {
            if (line.contains("System.out.println(")) {
                int behind = line.indexOf(" // ");
                answers.add(behind < 0 ? "(no answer is shown)" : line.substring(behind + 4));
            }
        }
        return answers;
    }

    // ---- the commands

    /** In a copy, so that the checkout stays as it is. */
    private static void commandsRun(List<String> commands, List<String> answers)
            throws IOException, InterruptedException {
        Path copy = Files.createTempDirectory("readme");
        try {
            copyTree(Path.of("src"), copy.resolve("src"));
            due("answers of the example", linesOf(commands.get(0), copy), answers);
            due("the tests' commands", commands.get(1), RUN + "\n");
            due(RUN + " can be run", Files.isExecutable(RUN), true);
            due("one test alone tells something", linesOf(commands.get(2), copy).isEmpty(), false);
        } finally {
            removeTree(copy);
        }
    }

    private static List<String> linesOf(String commands, Path folder) throws IOException, InterruptedException {
        Process shell = new ProcessBuilder("sh", "-e", "-c", commands).directory(folder.toFile())
                .redirectError(ProcessBuilder.Redirect.INHERIT).start();
        String told = new String(shell.getInputStream().readAllBytes(), StandardCharsets.UTF_8);
        due("exit code of " + commands, shell.waitFor(), 0);
        return told.lines().toList();
    }

    private static void copyTree(Path from, Path to) throws IOException {
        for (Path path : pathsIn(from)) {
            Files.createDirectories(to.resolve(from.relativize(path)).getParent());
            Files.copy(path, to.resolve(from.relativize(path)));
        }
    }

    private static void removeTree(Path folder) throws IOException {
        List<Path> paths = pathsIn(folder);
        for (int i = paths.size() - 1; i >= 0; i--) {
            Files.delete(paths.get(i));
        }
    }

    /** A folder stands ahead of what is in it. */
    private static List<Path> pathsIn(Path folder) throws IOException {
        try (Stream<Path> paths = Files.walk(folder)) {
            return paths.toList();
        }
    }

    // ---- the names

    private static void namesTests(String page) throws IOException {
        TreeSet<String> there = new TreeSet<>();
        for (Path path : pathsIn(TESTS)) {
            String name = path.getFileName().toString();
            if (name.endsWith("Test.java")) {
                there.add(name.substring(0, name.length() - 5));
            }
        }
        TreeSet<String> named = new TreeSet<>();
        Matcher name = Pattern.compile("^- `(\\w+Test)`", Pattern.MULTILINE).matcher(page);
        while (name.find()) {
            named.add(name.group(1));
        }
        due("tests that the page names", named, there);
    }

    private static void namesMethods(String page) {
        for (Method method : Twinreaders.class.getDeclaredMethods()) {
            if (Modifier.isPublic(method.getModifiers())) {
                due("the page names " + method.getName(), page.contains("`" + method.getName() + "`"), true);
            }
        }
    }
}
