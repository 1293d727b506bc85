import java.io.IOException;
import java.lang.reflect.Method;
import java.nio.charset.StandardCharsets;
import java.nio.file.FileVisitResult;
import java.nio.file.Files;
import java.nio.file.Path;
import java.nio.file.SimpleFileVisitor;
import java.nio.file.attribute.BasicFileAttributes;
import java.util.ArrayList;
import java.util.List;
import java.util.Set;
import java.util.TreeSet;
import java.util.regex.Matcher;
import java.util.regex.Pattern;
import java.util.stream.Collectors;
import java.util.stream.Stream;

/** README.md once as someone who has never seen the project: what it shows is there, what it says to run works. */
public final class ReadmeTest {
    private static final String EXAMPLE = "src/example/java/Example.java";

    private static int wrong = 0;

    public static void main(String[] args) throws Exception {
        String page = Files.readString(Path.of("README.md"));
        due("one example", blocks(page, "java").equals(List.of(Files.readString(Path.of(EXAMPLE)))));
        tests(page);
        calls(page);
        Path folder = Files.createTempDirectory("readme");
        try {
            commands(page, folder);
        } finally {
            remove(folder);
        }
        System.out.println(wrong == 0 ? "README.md holds" : wrong + " faults");
        if (wrong != 0) {
            System.exit(1);
        }
    }

    private static void due(String what, boolean good) {
        if (!good) {
            wrong++;
            System.out.println("not so: " + what);
        }
    }

    private static List<String> blocks(String page, String language) {
        List<String> blocks = new ArrayList<>();
        Matcher block = Pattern.compile("^```" + language + "\\n(.*?)^```$", Pattern.DOTALL | Pattern.MULTILINE)
            .matcher(page);
        while (block.find()) {
            blocks.add(block.group(1));
        }
        return blocks;
    }

    private static void tests(String page) throws IOException {
        Set<String> there;
        try (Stream<Path> files = Files.list(Path.of("src/test/java"))) {
            there = files.map(file -> file.getFileName().toString()).filter(name -> name.endsWith("Test.java"))
                .map(name -> name.replace(".java", "")).collect(Collectors.toCollection(TreeSet::new));
        }
        Set<String> told = new TreeSet<>();
        Matcher line = Pattern.compile("^\\| (\\w+Test) \\| .*", Pattern.MULTILINE).matcher(page);
        while (line.find()) {
            told.add(line.group(1));
        }
        due("the table of tests has " + there + ", not " + told, told.equals(there));
    }

    private static void calls(String page) {
        String table = page.substring(page.indexOf("### Calls"), page.indexOf("### Answers"));
        for (Method method : ThumbReader.class.getDeclaredMethods()) {
            if (java.lang.reflect.Modifier.isPublic(method.getModifiers())) {
                due("the table of calls has " + method.getName(), table.contains("`" + method.getName() + "`"));
            }
        }
    }

    /** In a checkout of their own, so that nothing is left behind in this one. */
    private static void commands(String page, Path folder) throws Exception {
        Path checkout = folder.resolve("main");
        copy(Path.of("src"), checkout.resolve("src"));
        copy(Path.of("../shared"), folder.resolve("shared"));
        List<String> commands = blocks(page, "sh");
        // It runs this test, so it can't be run here.
        due("it tells of .ci/run", commands.remove(".ci/run\n"));
        due("three commands more", commands.size() == 3);
        for (String command : commands) {
            Process process = new ProcessBuilder("sh", "-c", command).directory(checkout.toFile())
                .redirectErrorStream(true).start();
            process.getOutputStream().close();
            String output = new String(process.getInputStream().readAllBytes(), StandardCharsets.UTF_8);
            due(command + output, process.waitFor() == 0);
            if (command.contains(EXAMPLE)) {
                due("the example prints\n" + output, blocks(page, "text").equals(List.of(output)));
            }
        }
    }

    private static void copy(Path from, Path to) throws IOException {
        List<Path> files;
        try (Stream<Path> walk = Files.walk(from)) {
            files = walk.collect(Collectors.toList());
        }
        for (Path file : files) {
            Path copied = to.resolve(from.relativize(file));
            if (Files.isDirectory(file)) {
                Files.createDirectories(copied);
            } else {
                Files.write(copied, Files.readAllBytes(file));
            }
        }
    }

    private static void remove(Path folder) throws IOException {
        Files.walkFileTree(folder, new SimpleFileVisitor<>() {
            @Override
            public FileVisitResult visitFile(Path file, BasicFileAttributes attributes) throws IOException {
                Files.delete(file);
                return FileVisitResult.CONTINUE;
            }

            @Override
            public FileVisitResult postVisitDirectory(Path left, IOException failed) throws IOException {
                Files.delete(left);
                return FileVisitResult.CONTINUE;
            }
        });
    }
}
