import java.io.IOException;
import java.lang.reflect.Field;
import java.lang.reflect.Method;
import java.lang.reflect.Modifier;
import java.nio.file.Files;
import java.nio.file.Path;
import java.util.ArrayList;
import java.util.Comparator;
import java.util.List;
import java.util.Set;
import java.util.TreeSet;
import java.util.regex.Matcher;
import java.util.regex.Pattern;
import java.util.stream.Stream;

// README.md is true: its example, compiled and run by its own commands, prints what it says, its
// calls and constants are the class's, and the files it names are those that are there.
public final class ReadmeTest {
    private static final Path README = Path.of("README.md");
    private static final Path SOURCES = Path.of("src");
    private static final Pattern BLOCK = Pattern.compile("^```(\\w+)\n(.*?)^```$", Pattern.MULTILINE | Pattern.DOTALL);
    private static final Pattern CALL = Pattern.compile("^\\| `(?:new )?(\\w+)\\(([\\w, ]*)\\)` \\|", Pattern.MULTILINE);
    private static final Pattern CONSTANT = Pattern.compile("`([A-Z_]+)` \\((\\d+)");
    private static final Pattern FILE_NAME = Pattern.compile("`([A-Z]\\w+)`");

    private static int wrong = 0;

    private static void due(String what, Object got, Object want) {
        if (!got.equals(want)) {
            wrong++;
            System.out.println(what + ": is\n  " + got + "\ndue is\n  " + want);
        }
    }

    private static List<String> blocks(String text, String kind) {
        List<String> blocks = new ArrayList<>();
        Matcher m = BLOCK.matcher(text);
        while (m.find()) {
            if (m.group(1).equals(kind)) {
                blocks.add(m.group(2));
            }
        }
        return blocks;
    }

    // What was printed and the exit code, as one text.
    private static String run(String commands, Path directory) throws IOException, InterruptedException {
        Process process = new ProcessBuilder("sh", "-e", "-c", commands)
            .directory(directory.toFile())
            .redirectError(ProcessBuilder.Redirect.INHERIT)
            .start();
        process.getOutputStream().close();
        String printed = new String(process.getInputStream().readAllBytes());
        return printed + "exit code " + process.waitFor();
    }

    private static List<Path> under(Path directory) throws IOException {
        try (Stream<Path> paths = Files.walk(directory)) {
            return paths.toList();
        }
    }

    private static void copy(Path from, Path to) throws IOException {
        for (Path path : under(from)) {
            Files.copy(path, to.resolve(path));
        }
    }

    private static void remove(Path directory) throws IOException {
        List<Path> paths = new ArrayList<>(under(directory));
        paths.sort(Comparator.reverseOrder());
        for (Path path : paths) {
            Files.delete(path);
        }
    }

    // In a copy of the sources, since the commands leave compiled classes where they are run.
    private static void commands(String text) throws IOException, InterruptedException {
        List<String> programs = blocks(text, "java");
        List<String> shells = blocks(text, "sh");
        List<String> outputs = blocks(text, "text");
        due("programs, commands and outputs", List.of(programs.size(), shells.size(), outputs.size()), List.of(1, 2, 1));
        Path directory = Files.createTempDirectory("readme");
        try {
            copy(SOURCES, directory);
            Files.writeString(directory.resolve("Example.java"), programs.get(0));
            due("the example", run(shells.get(0), directory), outputs.get(0) + "exit code 0");
            String alone = run(shells.get(1), directory);
            due("one test alone passes: " + alone, alone.endsWith(" sentences hold\nexit code 0"), true);
        } finally {
            remove(directory);
        }
    }

    private static void calls(String text) {
        Set<String> told = new TreeSet<>();
        Matcher m = CALL.matcher(text);
        while (m.find()) {
            int count = m.group(2).isEmpty() ? 0 : m.group(2).split(",").length;
            told.add(m.group(1) + " with " + count);
        }
        Set<String> there = new TreeSet<>();
        there.add("GomoryBranch with " + GomoryBranch.class.getConstructors()[0].getParameterCount());
        for (Method method : GomoryBranch.class.getDeclaredMethods()) {
            if (Modifier.isPublic(method.getModifiers())) {
                there.add(method.getName() + " with " + method.getParameterCount());
            }
        }
        due("the calls told", told, there);
    }

    private static void constants(String text) throws IllegalAccessException {
        Set<String> told = new TreeSet<>();
        Matcher m = CONSTANT.matcher(text);
        while (m.find()) {
            told.add(m.group(1) + " = " + m.group(2));
        }
        Set<String> there = new TreeSet<>();
        for (Field field : GomoryBranch.class.getFields()) {
            there.add(field.getName() + " = " + field.getInt(null));
        }
        due("the constants told", told, there);
    }

    private static void files(String text) throws IOException {
        String list = text.substring(text.indexOf("The tests under `src/test/java`:"));
        Set<String> told = new TreeSet<>();
        Matcher m = FILE_NAME.matcher(list);
        while (m.find()) {
            told.add(m.group(1));
        }
        Set<String> there = new TreeSet<>();
        for (Path path : under(Path.of("src/test"))) {
            String name = path.getFileName().toString();
            if (name.endsWith(".java")) {
                there.add(name.substring(0, name.length() - ".java".length()));
            }
        }
        due("the tests and helpers told", told, there);
        due(".ci/run can be run", Files.isExecutable(Path.of(".ci/run")), true);
    }

    public static void main(String[] args) throws IOException, InterruptedException, IllegalAccessException {
        String text = Files.readString(README);
        commands(text);
        calls(text);
        constants(text);
        files(text);
        System.out.println(wrong == 0 ? "README.md is true of the project" : wrong + " things in README.md are not so");
        if (wrong != 0) {
            System.exit(1);
        }
    }
}
