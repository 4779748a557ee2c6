import java.io.IOException;
import java.lang.reflect.Method;
import java.lang.reflect.Modifier;
import java.nio.file.DirectoryStream;
import java.nio.file.Files;
import java.nio.file.Path;
import java.util.ArrayList;
import java.util.Comparator;
import java.util.List;
import java.util.stream.Stream;

/** README.md, followed word by word in a copy of the checkout: what is saved, what is run, what is printed. */
public final class ReadmeTest {
    private static final Path PAGE = Path.of("README.md");
    private static final Path TESTS = Path.of("src/test/java");
    private static final String WHOLE = "bash .ci/run";
    private static final String FENCE = "```";

    /** A part of the page between two fences, with what it is of: java, sh or text. */
    private record Part(String sort, String lines) { }

    private static int wrong = 0;

    public static void main(String[] args) throws IOException, InterruptedException {
        String page = Files.readString(PAGE);
        named(page);
        due("that .ci/run can be run", Files.isExecutable(Path.of(".ci/run")), true);
        Path copy = Files.createTempDirectory("readme");
        try {
            follow(parts(page), copied(copy));
        } finally {
            remove(copy);
        }
        System.out.println("README.md: " + wrong + " things are not so");
        System.exit(wrong == 0 ? 0 : 1);
    }

    private static void due(String what, Object is, Object want) {
        if (!is.equals(want)) {
            wrong++;
            System.out.println(what + " is\n" + is + "\ndue is\n" + want);
        }
    }

    // ---- what the page has to name

    private static void named(String page) throws IOException {
        for (Method call : OneHand.class.getDeclaredMethods()) {
            if (Modifier.isPublic(call.getModifiers())) {
                due("that " + call.getName() + " is named", page.contains("`" + call.getName() + "`"), true);
            }
        }
        for (Class<?> inside : OneHand.class.getDeclaredClasses()) {
            due("that " + inside + " is named", page.contains("`" + inside.getSimpleName() + "`"), true);
        }
        try (DirectoryStream<Path> files = Files.newDirectoryStream(TESTS, "*.java")) {
            for (Path file : files) {
                String name = file.getFileName().toString().replace(".java", "");
                due("that " + name + " is named", page.contains("`" + name + "`") || name.equals("ModelRights"), true);
            }
        }
    }

    private static List<Part> parts(String page) {
        List<Part> found = new ArrayList<>();
        String[] split = page.split("(?m)^" + FENCE);
        for (int k = 1; k < split.length; k += 2) {
            int end = split[k].indexOf('\n');
            found.add(new Part(split[k].substring(0, end), split[k].substring(end + 1)));
        }
        return found;
    }

    // ---- what the page says is done

    /** A checkout without what it makes, and the shared directory beside it. */
    private static Path copied(Path copy) throws IOException {
        Path root = Files.createDirectories(copy.resolve("main"));
        try (Stream<Path> all = Files.walk(Path.of("src"))) {
            for (Path file : all.toList()) {
                Files.copy(file, root.resolve(file.toString()));
            }
        }
        Files.createSymbolicLink(copy.resolve("shared"), Path.of("../shared").toRealPath());
        Files.createDirectory(root.resolve("out"));
        return root;
    }

    private static void follow(List<Part> parts, Path root) throws IOException, InterruptedException {
        String printed = "";
        int programs = 0;
        int whole = 0;
        for (Part part : parts) {
            switch (part.sort) {
                case "java" -> {
                    Files.writeString(root.resolve("out/First.java"), part.lines);
                    programs++;
                }
                case "sh" -> {
                    whole += part.lines.contains(WHOLE) ? 1 : 0;
                    printed = run(part.lines, root);
                }
                default -> due("what is printed", printed, part.lines);
            }
        }
        due("how many programs are saved", programs, 1);
        due("how often all tests are run", whole, 1);
    }

    /** All tests at once are run already, by the very script that runs this one. */
    private static String run(String lines, Path root) throws IOException, InterruptedException {
        String commands = lines.replace(WHOLE + "\n", "");
        Process made = new ProcessBuilder("bash", "-e", "-c", commands).directory(root.toFile())
                .redirectErrorStream(true).start();
        made.getOutputStream().close();
        String printed = new String(made.getInputStream().readAllBytes());
        due("the exit code of\n" + commands + printed, made.waitFor(), 0);
        return printed;
    }

    private static void remove(Path copy) throws IOException {
        try (Stream<Path> all = Files.walk(copy)) {
            for (Path file : all.sorted(Comparator.reverseOrder()).toList()) {
                Files.delete(file);
            }
        }
    }
}
