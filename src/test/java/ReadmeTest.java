import java.io.IOException;
import java.nio.file.FileVisitOption;
import java.nio.file.Files;
import java.nio.file.Path;
import java.util.Comparator;
import java.util.List;
import java.util.Set;
import java.util.TreeSet;
import java.util.regex.Matcher;
import java.util.regex.Pattern;
import java.util.stream.Collectors;
import java.util.stream.Stream;

/**
 * README.md tried: the calls it shows become the class Mine that it speaks of, its commands run one block after another in a
 * copy of the project, and what it names must be there.
 */
public final class ReadmeTest {
    private static final Path TESTS = Path.of("src/test/java"), SHARED = Path.of("../shared");
    private static final Pattern SHOWN = Pattern.compile("(x\\.\\w+\\(.*\\));\\s*// (-?\\d+)(?:\\b.*)?");
    private static final String MINE = """
        public final class Mine {
            private static int wrong;

            private static void due(String call, long got, long shown) {
                if (got != shown) {
                    wrong++;
                    System.out.println("README.md: " + call + " answered " + got + ", shown is " + shown);
                }
            }

            public static void main(String[] args) {
        %s        System.exit(wrong == 0 ? 0 : 1);
            }
        }
        """;

    public static void main(String[] args) throws IOException, InterruptedException {
        String readme = Files.readString(Path.of("README.md"));
        namedTests(readme);
        namedClasses(readme);
        commands(blocks(readme, "sh"), MINE.formatted(mine(blocks(readme, "java"))));
        Due.end();
    }

    private static List<String> blocks(String readme, String language) {
        return Pattern.compile("^```" + language + "\n(.*?)^```$", Pattern.MULTILINE | Pattern.DOTALL).matcher(readme).results()
            .map(found -> found.group(1)).toList();
    }

    /** Each block has an x of its own; a call that stands on a line of its own must show what it answers. */
    private static String mine(List<String> blocks) {
        StringBuilder body = new StringBuilder();
        int shown = 0;
        for (String block : blocks) {
            body.append("{\n");
            for (String line : block.split("\n")) {
                Matcher m = SHOWN.matcher(line);
                if (m.matches()) {
                    shown++;
                    body.append("due(\"").append(m.group(1)).append("\", ").append(m.group(1)).append(", ")
                        .append(m.group(2)).append("L);\n");
                } else {
                    Due.is("shown answers of " + line, line.startsWith("x.") ? 0 : 1, 1);
                    body.append(line).append("\n");
                }
            }
            body.append("}\n");
        }
        Due.is("some answers are shown", shown > 10 ? 1 : 0, 1);
        return body.toString();
    }

    /** Every test is told of, and every test told of is there. */
    private static void namedTests(String readme) throws IOException {
        Set<String> there = new TreeSet<>();
        try (Stream<Path> files = Files.list(TESTS)) {
            files.map(file -> file.getFileName().toString()).filter(name -> name.endsWith("Test.java"))
                .forEach(name -> there.add(name.replace(".java", "")));
        }
        same("tests", named(readme, "`(\\w+Test)`"), there);
    }

    private static void namedClasses(String readme) {
        Set<String> there = new TreeSet<>();
        for (Class<?> inside : BoxHedge.class.getDeclaredClasses()) {
            there.add(inside.getSimpleName());
        }
        there.add("BoxHedge");
        same("classes", named(readme.substring(readme.indexOf("## How the class is laid out")), "`(\\w+)`"), there);
    }

    private static Set<String> named(String text, String pattern) {
        return Pattern.compile(pattern).matcher(text).results().map(found -> found.group(1))
            .collect(Collectors.toCollection(TreeSet::new));
    }

    private static void same(String what, Set<String> named, Set<String> there) {
        if (!named.equals(there)) {
            Due.wrong("README.md names the " + what + " " + named + ", there are " + there);
        }
    }

    private static void commands(List<String> blocks, String mine) throws IOException, InterruptedException {
        Due.is("some commands are shown", blocks.size() > 1 ? 1 : 0, 1);
        Path root = Files.createTempDirectory("readme");
        try {
            Path project = root.resolve("main");
            copy(Path.of("src"), project.resolve("src"));
            copy(SHARED, root.resolve("shared"));
            Files.writeString(project.resolve("Mine.java"), mine);
            for (String block : blocks) {
                Process run = new ProcessBuilder("sh", "-e", "-c", block).directory(project.toFile()).inheritIO().start();
                Due.is("README.md: exit code of\n" + block, run.waitFor(), 0);
            }
        } finally {
            delete(root);
        }
    }

    private static void copy(Path from, Path to) throws IOException {
        for (Path each : tree(from, FileVisitOption.FOLLOW_LINKS)) {
            Path copy = to.resolve(from.relativize(each));
            if (Files.isDirectory(each)) {
                Files.createDirectories(copy);
            } else {
                Files.write(copy, Files.readAllBytes(each));
            }
        }
    }

    private static void delete(Path root) throws IOException {
        List<Path> all = tree(root);
        for (int k = all.size() - 1; k >= 0; k--) {
            Files.delete(all.get(k));
        }
    }

    /** Each folder ahead of what it holds. */
    private static List<Path> tree(Path root, FileVisitOption... how) throws IOException {
        try (Stream<Path> all = Files.walk(root, how)) {
            return all.sorted(Comparator.naturalOrder()).toList();
        }
    }
}
