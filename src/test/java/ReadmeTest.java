import java.io.IOException;
import java.nio.file.Files;
import java.nio.file.Path;
import java.util.ArrayList;
import java.util.Comparator;
import java.util.List;
import java.util.regex.Matcher;
import java.util.regex.Pattern;
import java.util.stream.Collectors;
import java.util.stream.Stream;

/** What README.md says: its program and its commands, and that nothing it should name is left out. */
public final class ReadmeTest {
    private static final Path TESTS = Path.of("src/test/java");

    private final String page;
    private final List<String> programs;
    private final List<String> commands;

    private ReadmeTest() throws IOException {
        page = Files.readString(Path.of("README.md"));
        programs = blocks("java");
        commands = blocks("sh");
    }

    public static void main(String[] args) throws Exception {
        ReadmeTest test = new ReadmeTest();
        Due.is("one program", test.programs.size(), 1);
        Due.is("three rows of commands", test.commands.size(), 3);
        if (test.programs.size() == 1 && test.commands.size() == 3) {
            // In a copy, so that the checkout stays as it is.
            Path copy = Files.createTempDirectory("readme");
            try {
                copySources(copy);
                test.example(copy);
                test.allTests();
                test.oneTest(copy);
            } finally {
                remove(copy);
            }
        }
        test.calls();
        test.tests();
        test.places();
        Due.end();
    }

    private List<String> blocks(String language) {
        List<String> found = new ArrayList<>();
        Matcher block = Pattern.compile("(?ms)^```" + language + "\n(.*?)^```$").matcher(page);
        while (block.find()) {
            found.add(block.group(1));
        }
        return found;
    }

    private void example(Path copy) throws Exception {
        String program = programs.get(0);
        Files.writeString(copy.resolve("Example.java"), program);
        List<String> printed = run(copy, commands.get(0));
        List<String> due = new ArrayList<>();
        for (String line : program.split("\n")) {
            if (line.contains("System.out.println(")) {
                due.add(line.replaceFirst(".*; *// (\\S+): .*", "$1"));
            }
        }
        Due.is("the program prints something", due.size() > 9, true);
        Due.is("the program prints " + printed + ", behind its calls stands " + due, printed.equals(due), true);
    }

    private void allTests() {
        String script = commands.get(1).trim();
        Due.is("there is " + script, Files.isExecutable(Path.of(script)), true);
    }

    private void oneTest(Path copy) throws Exception {
        List<String> printed = run(copy, commands.get(2));
        boolean right = !printed.isEmpty() && printed.get(printed.size() - 1).endsWith(" answers are as due");
        Due.is("a test of one's own prints " + printed, right, true);
    }

    /** The lines that commands print; they must end with 0. */
    private static List<String> run(Path directory, String lines) throws Exception {
        Path log = directory.resolve("log");
        Process process = new ProcessBuilder("sh", "-e", "-c", lines).directory(directory.toFile())
                .redirectErrorStream(true).redirectOutput(log.toFile()).start();
        int end = process.waitFor();
        List<String> printed = Files.readAllLines(log);
        Due.is(lines.trim() + " printed " + printed + ", its end", end, 0);
        return printed;
    }

    private void calls() {
        for (int call = 0; call < Face.CALLS.length; call++) {
            names(Face.name(call));
        }
        names("BusRanges.NONE");
        names("new BusRanges()");
    }

    private void tests() throws IOException {
        for (Path file : javaFiles(TESTS)) {
            String name = file.getFileName().toString().replace(".java", "");
            if (name.endsWith("Test")) {
                names(name);
            }
        }
        Matcher told = Pattern.compile("`(\\w+Test)`").matcher(page);
        while (told.find()) {
            Due.is("there is " + told.group(1), Files.exists(TESTS.resolve(told.group(1) + ".java")), true);
        }
    }

    /** Files of ../shared are looked up only where it is at hand. */
    private void places() {
        Matcher told = Pattern.compile("`([\\w.-]+(?:/[\\w.-]+)+)`").matcher(page);
        while (told.find()) {
            boolean absent = told.group(1).startsWith("../shared/") && !Document.isThere();
            Due.is("there is " + told.group(1), absent || Files.exists(Path.of(told.group(1))), true);
        }
    }

    private void names(String what) {
        Due.is("README.md names " + what, page.contains("`" + what + "`"), true);
    }

    private static List<Path> javaFiles(Path directory) throws IOException {
        try (Stream<Path> all = Files.list(directory)) {
            return all.filter(file -> file.toString().endsWith(".java")).collect(Collectors.toList());
        }
    }

    private static void copySources(Path copy) throws IOException {
        for (Path directory : List.of(Path.of("src/main/java"), TESTS)) {
            Files.createDirectories(copy.resolve(directory));
            for (Path file : javaFiles(directory)) {
                Files.copy(file, copy.resolve(file));
            }
        }
    }

    private static void remove(Path directory) throws IOException {
        List<Path> all;
        try (Stream<Path> found = Files.walk(directory)) {
            all = found.sorted(Comparator.reverseOrder()).collect(Collectors.toList());
        }
        for (Path file : all) {
            Files.delete(file);
        }
    }
}
