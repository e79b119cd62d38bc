import java.lang.reflect.Field;
import java.lang.reflect.Method;
import java.lang.reflect.Modifier;
import java.nio.file.Files;
import java.nio.file.Path;
import java.util.ArrayList;
import java.util.List;
import java.util.Set;
import java.util.TreeSet;

/** LANGUAGE.md as far as a look at the source and the face can tell, and the room that calls take. */
public final class RulesTest {
    private static final Check CHECK = new Check();

    public static void main(String[] args) throws Exception {
        source();
        face();
        sizes();
        room();
        CHECK.end("RulesTest");
    }

    private static void source() throws Exception {
        String text = Files.readString(Path.of("src/main/java/LostTicket.java"));
        String code = text.replaceAll("//[^\n]*", "").replaceAll("(?s)/\\*.*?\\*/", "");
        String[] words = {"throw", "throws", "try", "catch", "synchronized", "assert", "package",
            "protected", "NaN", "System.nanoTime", "System.out", "->", "::", "Exact", "Random"};
        for (String word : words) {
            String edge = word.matches("\\w+") ? "\\b" : "";
            CHECK.holds("no " + word, !code.matches("(?s).*" + edge
                    + java.util.regex.Pattern.quote(word) + edge + ".*"));
        }
        for (String line : code.split("\n")) {
            if (line.startsWith("import ")) {
                CHECK.holds(line, line.equals("import java.util.Arrays;"));
            }
            CHECK.holds("a short line", line.length() <= 110);
        }
        CHECK.holds("plain signs", text.chars().allMatch(c -> c == '\n' || c >= 32 && c < 127));
    }

    private static final String[] FACE = {
        "int type(int,int)", "int wipe(int)", "int fault(int)", "int seat(int,int)", "int person(int,int)",
        "long likely(int,int,int)", "long taken(int,int,int)", "long wrong(int,int)", "long left(int,int)",
        "long looks(int)", "int judged(int)", "long sitting(int,int)", "int order(int)", "long best(int)",
        "int back(int,int)", "int seen(int,int)", "int read(int)", "int forget()", "int losers()",
        "long share(int,int)", "int likeliest()", "int ask(int)", "long turned(int,int,int)",
        "int evening(int,int)", "int sheet(int,int,int)", "int lose(int)", "int lay(int,int,int,int)",
        "int get(int,int,int)", "int copy(int,int,int,int,int)", "int write(int,int)", "int count(int)",
        "long digest()"};

    private static void face() {
        Set<String> open = new TreeSet<>();
        Set<String> told = new TreeSet<>();
        for (String call : FACE) {
            told.add(call.substring(call.indexOf(' ') + 1, call.indexOf('(')));
        }
        for (Method m : LostTicket.class.getDeclaredMethods()) {
            if (Modifier.isPublic(m.getModifiers())) {
                open.add(signature(m));
            } else {
                CHECK.holds("private " + m.getName(), Modifier.isPrivate(m.getModifiers()));
                CHECK.holds(m.getName() + " is no name of the face", !told.contains(m.getName()));
            }
        }
        CHECK.holds("the face as told: " + open, open.equals(Set.of(FACE)));
        for (Field f : LostTicket.class.getDeclaredFields()) {
            boolean constant = Set.of("NONE", "BAD", "NOT", "FULL").contains(f.getName());
            CHECK.holds(f.getName(), Modifier.isPublic(f.getModifiers()) == constant
                    && (constant || Modifier.isPrivate(f.getModifiers())));
        }
        for (Class<?> c : LostTicket.class.getDeclaredClasses()) {
            CHECK.holds(c.getName(), Modifier.isStatic(c.getModifiers()));
            for (Method m : c.getDeclaredMethods()) {
                CHECK.holds(m.getName() + " is no name of the face", !told.contains(m.getName()));
            }
        }
        CHECK.holds("final", Modifier.isFinal(LostTicket.class.getModifiers()));
        CHECK.holds("public", Modifier.isPublic(LostTicket.class.getModifiers()));
        CHECK.due("one constructor", LostTicket.class.getConstructors().length, 1);
        CHECK.due("and no other", LostTicket.class.getDeclaredConstructors().length, 1);
        CHECK.due("NONE", LostTicket.NONE, -1);
        CHECK.due("BAD", LostTicket.BAD, -2);
        CHECK.due("NOT", LostTicket.NOT, -3);
        CHECK.due("FULL", LostTicket.FULL, -4);
    }

    private static String signature(Method m) {
        StringBuilder text = new StringBuilder(m.getReturnType().getName() + " " + m.getName() + "(");
        for (Class<?> c : m.getParameterTypes()) {
            text.append(text.charAt(text.length() - 1) == '(' ? "" : ",").append(c.getName());
        }
        return text.append(")").toString();
    }

    /** Rules 5 and 11: constants alone are static, few parameters, classes and fields, short methods. */
    private static void sizes() throws Exception {
        List<Class<?>> classes = new ArrayList<>(List.of(LostTicket.class.getDeclaredClasses()));
        classes.add(LostTicket.class);
        CHECK.holds("at most twelve classes", classes.size() <= 12);
        for (Class<?> c : classes) {
            int fields = 0;
            for (Field f : c.getDeclaredFields()) {
                boolean fixed = Modifier.isStatic(f.getModifiers());
                fields += fixed ? 0 : 1;
                CHECK.holds(f + " is final", !fixed || Modifier.isFinal(f.getModifiers()));
            }
            CHECK.holds(c + " has at most twenty fields", fields <= 20);
            for (Method m : c.getDeclaredMethods()) {
                CHECK.holds(m + " takes at most seven", m.getParameterCount() <= 7);
            }
        }
        List<String> lines = Files.readAllLines(Path.of("src/main/java/LostTicket.java"));
        for (int i = 0; i < lines.size(); i++) {
            String line = lines.get(i);
            if (line.matches(" {4}(?: {4})?[a-zA-Z].*\\) \\{")) {
                String end = line.startsWith("     ") ? "        }" : "    }";
                int length = lines.subList(i, lines.size()).indexOf(end) + 1;
                CHECK.holds("a short method: " + line, length > 0 && length <= 60);
            }
        }
    }

    /** All rows are made by the constructor: no call makes an object, so that a run's room is small. */
    private static void room() {
        com.sun.management.ThreadMXBean bean =
                (com.sun.management.ThreadMXBean) java.lang.management.ManagementFactory.getThreadMXBean();
        LostTicket x = new LostTicket();
        useAll(x);
        long before = bean.getCurrentThreadAllocatedBytes();
        for (int i = 0; i < 200; i++) {
            useAll(x);
        }
        long used = bean.getCurrentThreadAllocatedBytes() - before;
        CHECK.holds("calls take no room, but took " + used, used < 20000);
        before = bean.getCurrentThreadAllocatedBytes();
        for (int i = 0; i < 100; i++) {
            x = new LostTicket();
        }
        used = (bean.getCurrentThreadAllocatedBytes() - before) / 100;
        CHECK.holds("an object takes little room, but took " + used, used < 40000);
    }

    private static void useAll(LostTicket x) {
        x.wipe(0);
        x.wipe(1);
        for (int i = 0; i < 6; i++) {
            x.type(0, 'w');
            x.type(1, '0' + i);
            x.type(1, i == 2 ? 'l' : i == 3 ? 'n' : 'o');
        }
        x.forget();
        x.seen(1, 3);
        x.sheet(0, 0, 8);
        x.write(5, 0);
        x.copy(0, 0, 0, 1, 4);
        x.judged(0);
        x.sitting(0, 0);
        x.back(0, 2);
        x.read(0);
        x.order(1);
        x.digest();
        x.lose(0);
    }
}
