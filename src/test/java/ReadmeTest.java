import java.io.IOException;
import java.nio.file.DirectoryStream;
import java.nio.file.Files;
import java.nio.file.Path;
import java.util.List;
import javax.tools.JavaCompiler;
import javax.tools.ToolProvider;

/** What README.md says of the class and of the tests is so. */
public final class ReadmeTest {
    private static final Path README = Path.of("README.md"), TESTS = Path.of("src/test/java");
    private static final Check check = new Check();

    private final List<String> lines;

    private ReadmeTest(List<String> lines) {
        this.lines = lines;
    }

    public static void main(String[] args) throws IOException {
        ReadmeTest readme = new ReadmeTest(Files.readAllLines(README));
        readme.isJava();
        readme.calls();
        readme.texts();
        readme.tests();
        check.end();
    }

    /** The examples, one after the other, are a program. */
    private void isJava() throws IOException {
        StringBuilder program = new StringBuilder("final class Example { static void run() {\n");
        boolean isExample = false;
        for (String line : lines) {
            if (line.startsWith("```")) {
                isExample = line.equals("```java");
            } else if (isExample) {
                program.append(line).append('\n');
            }
        }
        Path directory = Files.createTempDirectory("readme");
        Path source = directory.resolve("Example.java");
        Path compiled = directory.resolve("Example.class");
        Files.writeString(source, program.append("} }\n"));
        JavaCompiler compiler = ToolProvider.getSystemJavaCompiler();
        check.due("javac of the examples in " + README, compiler.run(null, null, null, "-cp",
                System.getProperty("java.class.path"), "-d", directory.toString(), source.toString()), 0);
        Files.deleteIfExists(compiled);
        Files.deleteIfExists(source);
        Files.deleteIfExists(directory);
    }

    private void calls() {
        ShoutGroups library = new ShoutGroups();
        says("ShoutGroups library = new ShoutGroups();", "");
        answers("library.read(0, 3);", "reader 0 reads note 3: 0", library.read(0, 3), 0);
        answers("library.read(5, 3);", "", library.read(5, 3), 0);
        int messages = library.count(0);
        answers("library.change(1, 3, 42);", "takes 6 messages", library.change(1, 3, 42), 6);
        check.due("what the change took", library.count(0) - messages, 6);
        answers("library.ofNote(3, 1);", "OWNED", library.ofNote(3, 1), ShoutGroups.OWNED);
        answers("library.ofNote(3, 2);", "2: the set with reader 1 alone", library.ofNote(3, 2), 2);
        answers("library.costOfReading(0, 3);", "would take 4 messages", library.costOfReading(0, 3), 4);
        answers("library.undo();", "can still be undone: 2", library.undo(), 2);
    }

    private void texts() {
        ShoutGroups library = new ShoutGroups();
        library.read(0, 3);
        answers("library.put('c' << 8 | '3');", "\"c3\": call note 3 back", library.put('c' << 8 | '3'), 2);
        answers("library.fault();", "NONE", library.fault(), ShoutGroups.NONE);
        answers("library.carryOut();", "1 order carried out", library.carryOut(), 1);
        check.due("the card after the call", library.ofNote(3, 1), ShoutGroups.BLANK);
    }

    private void tests() throws IOException {
        says(".ci/run", "");
        try (DirectoryStream<Path> files = Files.newDirectoryStream(TESTS, "*Test.java")) {
            for (Path file : files) {
                String name = file.getFileName().toString();
                says("| " + name.substring(0, name.length() - ".java".length()) + " |", "");
            }
        }
    }

    private void answers(String call, String comment, int got, int want) {
        says(call, comment);
        check.due(call, got, want);
    }

    /** One line has all of these words, in this order. */
    private void says(String words, String more) {
        boolean isSaid = false;
        for (String line : lines) {
            int at = line.indexOf(words);
            isSaid |= at >= 0 && line.indexOf(more, at + words.length()) >= 0;
        }
        check.due(README + " says \"" + words + " " + more + "\"", isSaid ? 1 : 0, 1);
    }
}
