import java.io.IOException;
import java.lang.reflect.Method;
import java.lang.reflect.Modifier;
import java.nio.file.Files;
import java.nio.file.Path;
import java.util.ArrayList;
import java.util.Comparator;
import java.util.List;
import java.util.regex.Matcher;
import java.util.regex.Pattern;
import java.util.stream.Stream;

/** Follows README.md in a fresh copy: its program and its commands must do what it tells, and name what is there. */
public final class ReadmeTest {
    private static final Due due = new Due("ReadmeTest");
    private static final Path README = Path.of("README.md");
    private static final Path TESTS = Path.of("src", "test", "java");
    private static final String ALL_TESTS = ".ci/run";

    /** A fenced block: the word behind its first fence, and what stands within. */
    private record Block(String kind, String body) { }

    public static void main(String[] args) throws IOException, InterruptedException {
        String readme = Files.readString(README);
        Path copy = Files.createTempDirectory("readme");
        try {
            copyTree(Path.of("src"), copy);
            follow(blocks(readme), copy);
        } finally {
            removeTree(copy);
        }
        namesTests(readme);
        namesCalls(readme);
        due.close();
    }

    private static List<Block> blocks(String readme) {
        List<Block> found = new ArrayList<>();
        Matcher m = Pattern.compile("(?ms)^```(\\w+)\n(.*?)^```$").matcher(readme);
        while (m.find()) {
            found.add(new Block(m.group(1), m.group(2)));
        }
        return found;
    }

    private static void follow(List<Block> blocks, Path copy) throws IOException, InterruptedException {
        due.part("followed");
        int programs = 0;
        int runs = 0;
        for (int i = 0; i < blocks.size(); i++) {
            Block block = blocks.get(i);
            if (block.kind().equals("java")) {
                programs++;
                save(block.body(), copy);
            } else if (block.kind().equals("sh") && block.body().contains(ALL_TESTS)) {
                due.same("the command for all tests", "bash " + ALL_TESTS + "\n", block.body());
                due.same(ALL_TESTS + " can be run", 1, Files.isExecutable(Path.of(ALL_TESTS)) ? 1 : 0);
            } else if (block.kind().equals("sh")) {
                runs++;
                String printed = run(block.body(), copy);
                if (i + 1 < blocks.size() && blocks.get(i + 1).kind().equals("text")) {
                    due.same("what it prints", blocks.get(i + 1).body(), printed);
                }
            }
        }
        due.same("programs", 1, programs);
        due.same("commands but the one for all tests", 2, runs);
    }

    private static void save(String program, Path copy) throws IOException {
        Matcher name = Pattern.compile("public final class (\\w+)").matcher(program);
        if (name.find()) {
            Files.writeString(copy.resolve(name.group(1) + ".java"), program);
        } else {
            due.fail("a program without a class");
        }
    }

    private static String run(String commands, Path copy) throws IOException, InterruptedException {
        // what the JDK tells of its own settings goes to the other stream, and is not what README.md tells
        Process process = new ProcessBuilder("bash", "-e", "-c", commands)
            .directory(copy.toFile()).redirectError(ProcessBuilder.Redirect.INHERIT).start();
        String printed = new String(process.getInputStream().readAllBytes());
        due.same("exit of " + commands + printed, 0, process.waitFor());
        return printed;
    }

    /** Each file of the tests is named, and no test that is not there. */
    private static void namesTests(String readme) throws IOException {
        due.part("tests");
        List<String> there = new ArrayList<>();
        try (Stream<Path> files = Files.list(TESTS)) {
            files.forEach(file -> there.add(file.getFileName().toString().replace(".java", "")));
        }
        for (String test : there) {
            due.same(test + " is named", 1, Pattern.compile("`" + test + "[` ]").matcher(readme).find() ? 1 : 0);
        }
        Matcher named = Pattern.compile("\\b\\w+(Test|Edges)\\b").matcher(readme);
        while (named.find()) {
            due.same(named.group() + " is there", 1, there.contains(named.group()) ? 1 : 0);
        }
    }

    private static void namesCalls(String readme) {
        due.part("calls");
        for (Method call : HandRing.class.getDeclaredMethods()) {
            if (Modifier.isPublic(call.getModifiers())) {
                due.same(call.getName() + " is named", 1, readme.contains("`" + call.getName() + "`") ? 1 : 0);
            }
        }
    }

    private static void copyTree(Path from, Path to) throws IOException {
        try (Stream<Path> all = Files.walk(from)) {
            for (Path path : (Iterable<Path>) all::iterator) {
                Path target = to.resolve(path.toString());
                if (Files.isDirectory(path)) {
                    Files.createDirectories(target);
                } else {
                    Files.copy(path, target);
                }
            }
        }
    }

    private static void removeTree(Path root) throws IOException {
        try (Stream<Path> all = Files.walk(root)) {
            for (Path path : (Iterable<Path>) all.sorted(Comparator.reverseOrder())::iterator) {
                Files.delete(path);
            }
        }
    }
}
