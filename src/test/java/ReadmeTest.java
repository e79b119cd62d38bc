import java.io.IOException;
import java.lang.reflect.Method;
import java.lang.reflect.Modifier;
import java.nio.file.Files;
import java.nio.file.Path;
import java.util.ArrayList;
import java.util.List;
import java.util.Map;
import java.util.Set;
import java.util.TreeMap;
import java.util.TreeSet;
import java.util.regex.Matcher;
import java.util.regex.Pattern;
import java.util.stream.Stream;

/** README.md is followed in a copy of the checkout: what it says must hold there. */
public final class ReadmeTest {
    private static final Check CHECK = new Check();
    private static final Path MAIN = Path.of("src/main/java"), TESTS = Path.of("src/test/java");
    private static String page;

    public static void main(String[] args) throws Exception {
        page = Files.readString(Path.of("README.md"));
        Path checkout = Files.createTempDirectory("readme");
        try {
            copyFiles(MAIN, checkout);
            copyFiles(TESTS, checkout);
            program(checkout);
            oneTestAlone(checkout);
        } finally {
            delete(checkout);
        }
        runIsThere();
        calls();
        tests();
        CHECK.end("ReadmeTest");
    }

    /** The blocks of a language, as they come. */
    private static List<String> blocks(String language) {
        List<String> all = new ArrayList<>();
        Matcher m = Pattern.compile("(?ms)^```" + language + "\n(.*?)^```$").matcher(page);
        while (m.find()) {
            all.add(m.group(1));
        }
        return all;
    }

    private static void program(Path checkout) throws Exception {
        Files.writeString(checkout.resolve("Mine.java"), blocks("java").get(0));
        Path printed = checkout.resolve("printed.txt");
        CHECK.due("the program's commands", follow(checkout, blocks("sh").get(0), printed), 0);
        String text = Files.readString(printed);
        CHECK.holds("it prints what is told, not\n" + text, text.equals(blocks("text").get(0)));
    }

    private static void oneTestAlone(Path checkout) throws Exception {
        Path printed = checkout.resolve("printed.txt");
        CHECK.due("one test alone", follow(checkout, blocks("sh").get(2), printed), 0);
        CHECK.holds("it was that test", Files.readString(printed).startsWith("SheetsTest: "));
    }

    private static int follow(Path folder, String commands, Path printed) throws Exception {
        return new ProcessBuilder("sh", "-e", "-c", commands).directory(folder.toFile())
                .redirectErrorStream(true).redirectOutput(printed.toFile()).start().waitFor();
    }

    /** It is not run from here: this test is a part of it. */
    private static void runIsThere() {
        Path run = Path.of(blocks("sh").get(1).strip());
        CHECK.holds(run + " can be run", Files.isExecutable(run));
    }

    /** Each call of the face stands in the table once, with as many arguments as it takes. */
    private static void calls() {
        Map<String, Integer> told = new TreeMap<>();
        Matcher m = Pattern.compile("(?m)^\\| `(\\w+)\\((.*?)\\)` \\| ").matcher(page);
        while (m.find()) {
            int many = m.group(2).isEmpty() ? 0 : m.group(2).split(", ").length;
            CHECK.holds(m.group(1) + " is told once", told.put(m.group(1), many) == null);
        }
        Map<String, Integer> face = new TreeMap<>();
        for (Method call : LostTicket.class.getDeclaredMethods()) {
            if (Modifier.isPublic(call.getModifiers())) {
                face.put(call.getName(), call.getParameterCount());
            }
        }
        CHECK.holds("the calls are " + face + ", told are " + told, face.equals(told));
    }

    private static void tests() throws IOException {
        Set<String> told = new TreeSet<>();
        Matcher m = Pattern.compile("(?m)^\\| (\\w+Test) \\| ").matcher(page);
        while (m.find()) {
            told.add(m.group(1));
        }
        Set<String> there = new TreeSet<>();
        for (Path file : list(TESTS)) {
            String name = file.getFileName().toString().replace(".java", "");
            if (name.endsWith("Test")) {
                there.add(name);
            }
        }
        CHECK.holds("the tests are " + there + ", told are " + told, there.equals(told));
    }

    private static List<Path> list(Path folder) throws IOException {
        try (Stream<Path> files = Files.list(folder)) {
            return files.toList();
        }
    }

    private static void copyFiles(Path folder, Path checkout) throws IOException {
        Path to = Files.createDirectories(checkout.resolve(folder));
        for (Path file : list(folder)) {
            Files.copy(file, to.resolve(file.getFileName()));
        }
    }

    private static void delete(Path folder) throws IOException {
        List<Path> all;
        try (Stream<Path> files = Files.walk(folder)) {
            all = files.toList();
        }
        for (int i = all.size() - 1; i >= 0; i--) {
            Files.delete(all.get(i));
        }
    }
}
