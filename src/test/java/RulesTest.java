import java.lang.reflect.Field;
import java.lang.reflect.Method;
import java.lang.reflect.Modifier;
import java.nio.file.Files;
import java.nio.file.Path;
import java.util.Set;
import java.util.TreeSet;

/** LANGUAGE.md as far as a look at the source and the face can tell, and the room that calls take. */
public final class RulesTest {
    private static final Check CHECK = new Check();

    public static void main(String[] args) throws Exception {
        source();
        face();
        room();
        CHECK.end("RulesTest");
    }

    private static void source() throws Exception {
        String text = Files.readString(Path.of("src/main/java/LostTicket.java"));
        String code = text.replaceAll("//[^\n]*", "").replaceAll("(?s)/\\*.*?\\*/", "");
        String[] words = {"throw", "throws", "try", "catch", "synchronized", "assert", "package",
            "protected", "NaN", "System.nanoTime", "System.out", "->", "::", "Exact", "Random"};
        for (String word : words) {
            String edge = word.matches("\\w+") ? "\\b" : "";
            CHECK.holds("no " + word, !code.matches("(?s).*" + edge
                    + java.util.regex.Pattern.quote(word) + edge + ".*"));
        }
        for (String line : code.split("\n")) {
            if (line.startsWith("import ")) {
                CHECK.holds(line, line.equals("import java.util.Arrays;"));
            }
            CHECK.holds("a short line", line.length() <= 110);
        }
        CHECK.holds("plain signs", text.chars().allMatch(c -> c == '\n' || c >= 32 && c < 127));
    }

    private static void face() {
        Set<String> open = new TreeSet<>();
        for (Method m : LostTicket.class.getDeclaredMethods()) {
            if (Modifier.isPublic(m.getModifiers())) {
                open.add(m.getName());
            } else {
                CHECK.holds("private " + m.getName(), Modifier.isPrivate(m.getModifiers()));
            }
        }
        Set<String> told = new TreeSet<>(Set.of(("type wipe fault seat person likely taken wrong left "
                + "looks judged sitting order best back seen read forget losers share likeliest ask "
                + "turned evening sheet lose lay get copy write count digest").split(" ")));
        CHECK.holds("the face as told", open.equals(told));
        for (Field f : LostTicket.class.getDeclaredFields()) {
            boolean constant = Set.of("NONE", "BAD", "NOT", "FULL").contains(f.getName());
            CHECK.holds(f.getName(), Modifier.isPublic(f.getModifiers()) == constant
                    && (constant || Modifier.isPrivate(f.getModifiers())));
        }
        for (Class<?> c : LostTicket.class.getDeclaredClasses()) {
            CHECK.holds(c.getName(), Modifier.isStatic(c.getModifiers()));
            for (Method m : c.getDeclaredMethods()) {
                CHECK.holds(m.getName() + " is no name of the face", !told.contains(m.getName()));
            }
        }
        CHECK.holds("final", Modifier.isFinal(LostTicket.class.getModifiers()));
        CHECK.due("one constructor", LostTicket.class.getDeclaredConstructors().length, 1);
    }

    /** All rows are made by the constructor: no call makes an object, so that a run's room is small. */
    private static void room() {
        com.sun.management.ThreadMXBean bean =
                (com.sun.management.ThreadMXBean) java.lang.management.ManagementFactory.getThreadMXBean();
        LostTicket x = new LostTicket();
        useAll(x);
        long before = bean.getCurrentThreadAllocatedBytes();
        for (int i = 0; i < 200; i++) {
            useAll(x);
        }
        long used = bean.getCurrentThreadAllocatedBytes() - before;
        CHECK.holds("calls take no room, but took " + used, used < 20000);
        before = bean.getCurrentThreadAllocatedBytes();
        for (int i = 0; i < 100; i++) {
            x = new LostTicket();
        }
        used = (bean.getCurrentThreadAllocatedBytes() - before) / 100;
        CHECK.holds("an object takes little room, but took " + used, used < 40000);
    }

    private static void useAll(LostTicket x) {
        x.wipe(0);
        x.wipe(1);
        for (int i = 0; i < 6; i++) {
            x.type(0, 'w');
            x.type(1, '0' + i);
            x.type(1, i == 2 ? 'l' : i == 3 ? 'n' : 'o');
        }
        x.forget();
        x.seen(1, 3);
        x.sheet(0, 0, 8);
        x.write(5, 0);
        x.copy(0, 0, 0, 1, 4);
        x.judged(0);
        x.sitting(0, 0);
        x.back(0, 2);
        x.read(0);
        x.order(1);
        x.digest();
        x.lose(0);
    }
}
