import java.io.IOException;
import java.nio.file.Files;
import java.nio.file.Path;
import java.util.List;
import java.util.TreeSet;
import java.util.regex.Matcher;
import java.util.regex.Pattern;
import java.util.stream.Stream;

/** README.md as it is written: its example answers so, its command runs on a checkout without classes, its list is whole. */
public final class ReadmeTest {
    private static final Pattern ANSWERED = Pattern.compile("^( *)(x\\.(\\w+)\\(.*\\)); +// (-?\\d+)(:.*)?$");

    public static void main(String[] args) throws IOException, InterruptedException {
        String text = Files.readString(Path.of("README.md"));
        Path room = Files.createTempDirectory("readme");
        try {
            example(block(text, "java"), room);
            command(block(text, "sh"), room.resolve("checkout"));
            list(text);
        } finally {
            remove(room);
        }
        Check.end();
    }

    private static String block(String text, String sort) {
        Matcher m = Pattern.compile("(?s)\n```" + sort + "\n(.*?)\n```\n").matcher(text);
        Check.due("a block of " + sort, 1, m.find() ? 1 : 0);
        String block = m.group(1);
        Check.due("another block of " + sort, 0, m.find() ? 1 : 0);
        return block;
    }

    /** Each call with an answer behind it becomes one that is held against it. */
    private static void example(String block, Path room) throws IOException, InterruptedException {
        StringBuilder b = new StringBuilder("class ReadmeExample {\npublic static void main(String[] args) {\n");
        TreeSet<String> answered = new TreeSet<>();
        for (String line : block.split("\n")) {
            Matcher m = ANSWERED.matcher(line);
            if (m.matches()) {
                answered.add(m.group(3));
                b.append("Check.due(\"README.md: ").append(m.group(2).replace("\"", "'")).append("\", ").append(m.group(4))
                    .append(", ").append(m.group(2)).append(");\n");
            } else {
                boolean holdsNone = !line.contains("x.") || line.trim().equals("x.feed(c);");
                Check.due("a line without its answer: " + line, 1, holdsNone ? 1 : 0);
                b.append(line).append('\n');
            }
        }
        Check.due("calls of many kinds: " + answered, 1, answered.size() > 20 ? 1 : 0);
        Path file = room.resolve("ReadmeExample.java");
        Files.writeString(file, b.append("Check.end();\n}\n}\n").toString());
        String classes = Path.of(System.getProperty("java.class.path")).toAbsolutePath().toString();
        Check.due("the example compiles", 0, run(room, "javac", "-cp", classes, "-d", room.toString(), file.toString()));
        Check.due("the example answers so", 0, run(room, "java", "-cp", classes + ":" + room, "ReadmeExample"));
    }

    /** On what is checked in alone: no classes made ahead. */
    private static void command(String block, Path checkout) throws IOException, InterruptedException {
        for (String folder : List.of("src/main/java", "src/test/java")) {
            Files.createDirectories(checkout.resolve(folder));
            try (Stream<Path> files = Files.list(Path.of(folder))) {
                for (Path file : files.toList()) {
                    Files.copy(file, checkout.resolve(file));
                }
            }
        }
        Check.due("the command for one test", 0, run(checkout, "sh", "-c", block));
    }

    private static void list(String text) throws IOException {
        TreeSet<String> told = new TreeSet<>();
        Matcher m = Pattern.compile("\n\\| `(\\w+Test)` \\|").matcher(text);
        while (m.find()) {
            told.add(m.group(1));
        }
        try (Stream<Path> files = Files.list(Path.of("src/test/java"))) {
            for (String name : files.map(f -> f.getFileName().toString()).filter(n -> n.endsWith("Test.java")).toList()) {
                Check.due(name + " is in the list", 1, told.remove(name.replace(".java", "")) ? 1 : 0);
            }
        }
        Check.due("in the list and nowhere else: " + told, 0, told.size());
    }

    private static int run(Path folder, String... words) throws IOException, InterruptedException {
        return new ProcessBuilder(words).directory(folder.toFile()).inheritIO().start().waitFor();
    }

    private static void remove(Path room) throws IOException {
        try (Stream<Path> files = Files.walk(room)) {
            for (Path file : files.sorted((a, b) -> b.compareTo(a)).toList()) {
                Files.delete(file);
            }
        }
    }
}
