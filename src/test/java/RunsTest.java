import java.util.Random;

/** Promises 1 to 32: runs of all calls by chance, edges and wrong numbers among them, against Model. */
public final class RunsTest {
    private static final Check CHECK = new Check();
    private static final Random RANDOM = new Random(512);
    private static final int[] EDGES = {Integer.MIN_VALUE, -3, -2, -1, 4, 7, 8, 9, 32, 60, 61, 255, 256,
        Integer.MAX_VALUE};
    private static LostTicket x;
    private static Model m;
    private static String name;

    public static void main(String[] args) {
        for (int run = 0; run < 300; run++) {
            x = new LostTicket();
            m = new Model();
            for (int call = 0; call < 400; call++) {
                name = "run " + run + ", call " + call + ": ";
                oneCall();
            }
        }
        CHECK.end("RunsTest");
    }

    private static int chance(int many) {
        return RANDOM.nextInt(many);
    }

    /** Mostly a number from 0 on, sometimes an edge. */
    private static int near(int most) {
        return chance(16) == 0 ? EDGES[chance(EDGES.length)] : chance(most + 1);
    }

    private static void due(String call, long got, long want) {
        CHECK.due(name + call, got, want);
    }

    private static void oneCall() {
        switch (chance(10)) {
            case 0, 1, 2 -> texts();
            case 3, 4 -> chances();
            case 5 -> orders();
            case 6 -> losers();
            case 7 -> evenings();
            default -> sheets();
        }
    }

    private static void texts() {
        int text = near(1);
        int a = near(4);
        int what = near(2);
        switch (chance(20)) {
            case 0 -> due("fault " + text, x.fault(text), m.fault(text));
            case 1 -> due("seat " + a + " " + what, x.seat(a, what), m.seat(a, what));
            case 2 -> due("person " + a + " " + what, x.person(a, what), m.person(a, what));
            case 3 -> due("count " + (a + what), x.count(a + what), m.count(a + what));
            case 4 -> due("type " + text + " " + a, x.type(text, a), m.type(text, a));
            default -> goOn(m.count(0) == 0 || chance(40) == 0 ? 0 : 1);
        }
    }

    /** A byte that goes on; a text that cannot go on, or is long enough for Model, is wiped in time. */
    private static void goOn(int text) {
        int length = m.count(3 + text);
        int fault = m.fault(text);
        boolean whole = text == 0 ? length >= 7 : m.people() == m.seats();
        if (fault >= 0 && fault < length || whole) {
            if (!whole || chance(12) == 0) {
                due("wipe " + text, x.wipe(text), m.wipe(text));
            }
            return;
        }
        for (int i = chance(text == 0 ? 6 : 2); i >= 0 && m.count(3 + text) < 7 + 3 * text; i--) {
            int b = nextByte(text);
            due("type " + text + " " + b, x.type(text, b), m.type(text, b));
        }
    }

    private static int nextByte(int text) {
        if (text == 0) {
            boolean mayEndRow = m.count(3) > 0 && m.fault(0) == LostTicket.NONE;
            return mayEndRow && chance(4) == 0 ? ';' : "wma".charAt(chance(3));
        }
        return m.count(4) % 2 == 0 ? '0' + chance(Math.max(1, m.seats())) : "ooolns".charAt(chance(6));
    }

    private static void chances() {
        int a = near(4);
        int b = near(4);
        int set = near(31);
        int what = near(1);
        switch (chance(7)) {
            case 0 -> due("likely " + a + " " + b + " " + what, x.likely(a, b, what), m.likely(a, b, what));
            case 1 -> due("taken " + a + " " + set + " " + what, x.taken(a, set, what), m.taken(a, set, what));
            case 2 -> due("wrong " + (a - 1) + " " + what, x.wrong(a - 1, what), m.wrong(a - 1, what));
            case 3 -> due("left " + a + " " + what, x.left(a, what), m.left(a, what));
            case 4 -> due("looks " + what, x.looks(what), m.looks(what));
            case 5 -> due("judged " + a, x.judged(a), m.judged(a));
            default -> due("sitting " + a + " " + what, x.sitting(a, what), m.sitting(a, what));
        }
    }

    private static void orders() {
        int a = near(4);
        int what = near(2);
        switch (chance(4)) {
            case 0 -> due("order " + a, x.order(a), m.order(a));
            case 1 -> due("best " + what, x.best(what), m.best(what));
            default -> due("back " + a + " " + what, x.back(a, what), m.back(a, what));
        }
    }

    private static void losers() {
        int a = near(4);
        int b = near(4);
        int what = near(1);
        switch (chance(8)) {
            case 0, 1 -> due("seen " + (a - 1) + " " + b, x.seen(a - 1, b), m.seen(a - 1, b));
            case 2 -> due("read " + a, x.read(a), m.read(a));
            case 3 -> due("forget", x.forget(), m.forget());
            case 4 -> due("losers", x.losers(), m.losers());
            case 5 -> due("share " + a + " " + what, x.share(a, what), m.share(a, what));
            case 6 -> due("likeliest", x.likeliest(), m.likeliest());
            default -> due("ask " + what, x.ask(what), m.ask(what));
        }
    }

    private static void evenings() {
        int seed = chance(4) == 0 ? EDGES[chance(EDGES.length)] : RANDOM.nextInt();
        int a = near(4);
        int what = near(1);
        switch (chance(4)) {
            case 0 -> due("turned " + a + " " + what, x.turned(a + 1, a, what), m.turned(a + 1, a, what));
            case 1 -> due("evening " + seed + " " + (a - 1), x.evening(seed, a - 1), m.evening(seed, a - 1));
            default -> due("write " + seed + " " + a, x.write(seed, a), m.write(seed, a));
        }
    }

    private static int someItems() {
        return chance(12) == 0 ? near(60) : chance(7);
    }

    private static int someValue() {
        return chance(6) == 0 ? RANDOM.nextInt() : near(5) - 1;
    }

    private static void sheets() {
        int s = near(3);
        int t = chance(2) == 0 ? s : near(3);
        int form = near(2);
        int i = near(4);
        switch (chance(9)) {
            case 0 -> {
                int n = chance(20) == 0 ? -1 : someItems();
                due("sheet " + s + " " + form + " " + n, x.sheet(s, form, n), m.sheet(s, form, n));
            }
            case 1 -> due("lose " + s, x.lose(s), m.lose(s));
            case 2, 3, 4, 5 -> {
                int v = someValue();
                due("lay " + s + " " + form + " " + i + " " + v, x.lay(s, form, i, v), m.lay(s, form, i, v));
            }
            case 6 -> due("get " + s + " " + form + " " + i, x.get(s, form, i), m.get(s, form, i));
            default -> {
                int j = near(4);
                int n = near(4);
                due("copy " + s + " " + i + " " + t + " " + j + " " + n, x.copy(s, i, t, j, n),
                        m.copy(s, i, t, j, n));
            }
        }
        due("count(8)", x.count(8), m.count(8));
    }
}
