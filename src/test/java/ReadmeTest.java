import java.io.File;
import java.io.IOException;
import java.lang.reflect.Method;
import java.lang.reflect.Modifier;
import java.nio.charset.StandardCharsets;
import java.nio.file.Files;
import java.nio.file.Path;
import java.util.Comparator;
import java.util.List;
import java.util.regex.Matcher;
import java.util.regex.Pattern;
import java.util.stream.Collectors;
import java.util.stream.Stream;

/** README.md: its example is compiled and run by its own commands, and it names what there is. */
final class ReadmeTest {
    private static final Path PROGRAM = Path.of("src/main/java/CoverShares.java");

    private ReadmeTest() {
    }

    public static void main(String[] args) throws IOException, InterruptedException {
        String readme = Files.readString(Path.of("README.md"));
        example(readme);
        runOfTests(readme);
        namesTheCalls(readme);
        namesTheClasses(readme);
        namesTheTests(readme);
        Due.end("ReadmeTest");
    }

    private static List<String> blocks(String readme, String kind) {
        return Pattern.compile("(?ms)^```" + kind + "\n(.*?)^```$").matcher(readme).results()
            .map(block -> block.group(1)).collect(Collectors.toList());
    }

    /** In a directory of its own, so that nothing is left in the project's. */
    private static void example(String readme) throws IOException, InterruptedException {
        Path directory = Files.createTempDirectory("readme");
        try {
            Files.createDirectories(directory.resolve(PROGRAM).getParent());
            Files.copy(PROGRAM, directory.resolve(PROGRAM));
            Files.writeString(directory.resolve("Example.java"), blocks(readme, "java").get(0));
            Due.same("what the example prints", printed(directory, blocks(readme, "sh").get(0)),
                blocks(readme, "text").get(0));
        } finally {
            remove(directory);
        }
    }

    private static String printed(Path directory, String commands) throws IOException, InterruptedException {
        ProcessBuilder builder = new ProcessBuilder("sh", "-e", "-c", commands);
        builder.directory(directory.toFile()).redirectError(ProcessBuilder.Redirect.INHERIT);
        Process process = builder.start();
        String text = new String(process.getInputStream().readAllBytes(), StandardCharsets.UTF_8);
        Due.is("the exit code of\n" + commands, process.waitFor(), 0);
        return text;
    }

    private static void remove(Path directory) throws IOException {
        try (Stream<Path> all = Files.walk(directory)) {
            all.sorted(Comparator.reverseOrder()).map(Path::toFile).forEach(File::delete);
        }
    }

    private static void runOfTests(String readme) {
        Due.same("how the tests are run", blocks(readme, "sh").get(1), ".ci/run\n");
        Due.is("it can be run", Files.isExecutable(Path.of(".ci/run")) ? 1 : 0, 1);
    }

    private static void names(String readme, String name) {
        Due.is("README.md names " + name, readme.contains("`" + name + "`") ? 1 : 0, 1);
    }

    private static void namesTheCalls(String readme) {
        for (Method method : CoverShares.class.getDeclaredMethods()) {
            if (Modifier.isPublic(method.getModifiers())) {
                names(readme, method.getName());
            }
        }
    }

    private static void namesTheClasses(String readme) throws IOException {
        Matcher matcher = Pattern.compile("private static final class (\\w+)").matcher(Files.readString(PROGRAM));
        while (matcher.find()) {
            names(readme, matcher.group(1));
        }
    }

    private static void namesTheTests(String readme) throws IOException {
        try (Stream<Path> files = Files.list(Path.of("src/test/java"))) {
            files.map(file -> file.getFileName().toString().replace(".java", "")).sorted()
                .filter(name -> name.endsWith("Test"))
                .forEach(name -> names(readme, name.startsWith("EndsOf") ? "EndsOf..Test" : name));
        }
    }
}
