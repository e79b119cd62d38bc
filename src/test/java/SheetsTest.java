import java.util.Random;

/** Promises 26 to 31 and count() 8: runs by chance against rows of the Java machine itself. */
public final class SheetsTest {
    private static final Check CHECK = new Check();
    private static final Random RANDOM = new Random(99);
    private static final int LEAST = Integer.MIN_VALUE;
    private static Object[] rows;
    private static int finding;

    public static void main(String[] args) {
        for (int run = 0; run < 400; run++) {
            rows = new Object[4];
            finding = 0;
            LostTicket x = TextsTest.typed("wwwmmm", "0l1o2o3o4o5o");
            for (int call = 0; call < 300; call++) {
                oneCall(x);
                CHECK.due("count(8)", x.count(8), finding);
            }
        }
        edges();
        CHECK.end("SheetsTest");
    }

    private static int near(int most) {
        int r = RANDOM.nextInt(40);
        return r == 0 ? -1 : r == 1 ? most + 1 : r == 2 ? Integer.MAX_VALUE : r == 3 ? LEAST
                : RANDOM.nextInt(most + 1);
    }

    private static int value() {
        int[] some = {0, -1, 127, 128, 255, -128, -129, 32767, 32768, 65535, LEAST, Integer.MAX_VALUE};
        return RANDOM.nextBoolean() ? some[RANDOM.nextInt(some.length)] : RANDOM.nextInt();
    }

    private static int formOf(Object row) {
        return row instanceof byte[] ? 0 : row instanceof short[] ? 1 : 2;
    }

    private static int sizeOf(Object row) {
        return java.lang.reflect.Array.getLength(row);
    }

    private static int found(int number) {
        finding = number;
        return -10 - number;
    }

    private static void put(Object row, int i, int v) {
        if (row instanceof byte[] b) {
            b[i] = (byte) v;
        } else if (row instanceof short[] s) {
            s[i] = (short) v;
        } else {
            ((int[]) row)[i] = v;
        }
    }

    private static int refusal(int s, int form, int i) {
        if (s < 0 || s > 3 || form < 0 || form > 2) {
            return -2;
        }
        if (rows[s] == null) {
            return found(1);
        }
        if (formOf(rows[s]) != form) {
            return found(3);
        }
        return i < 0 || i >= sizeOf(rows[s]) ? found(2) : 0;
    }

    private static int likelyForm(int s) {
        return s >= 0 && s <= 3 && rows[s] != null && RANDOM.nextInt(6) > 0 ? formOf(rows[s]) : near(2);
    }

    private static void oneCall(LostTicket x) {
        int s = near(3);
        switch (RANDOM.nextInt(8)) {
            case 0 -> makeSheet(x, s);
            case 1, 2 -> layItem(x, s);
            case 3, 4 -> getItem(x, s);
            case 5, 6 -> copyItems(x, s);
            default -> loseOrWrite(x, s);
        }
    }

    private static void makeSheet(LostTicket x, int s) {
        int form = near(2);
        int n = RANDOM.nextInt(4) == 0 ? near(60) : RANDOM.nextInt(9) - 1;
        int want = s < 0 || s > 3 || form < 0 || form > 2 || n > 60 ? -2 : n < 0 ? found(5) : n;
        if (want >= 0) {
            rows[s] = form == 0 ? new byte[n] : form == 1 ? new short[n] : new int[n];
        }
        CHECK.due("sheet " + s + " " + form + " " + n, x.sheet(s, form, n), want);
    }

    private static void layItem(LostTicket x, int s) {
        int form = likelyForm(s);
        int i = near(9);
        int v = value();
        int want = refusal(s, form, i);
        if (want == 0) {
            put(rows[s], i, v);
            want = 1;
        }
        CHECK.due("lay", x.lay(s, form, i, v), want);
    }

    private static void getItem(LostTicket x, int s) {
        int form = likelyForm(s);
        int i = near(9);
        int want = refusal(s, form, i) == 0 ? java.lang.reflect.Array.getInt(rows[s], i) : LEAST;
        CHECK.due("get", x.get(s, form, i), want);
    }

    private static void copyItems(LostTicket x, int s) {
        int t = RANDOM.nextBoolean() ? s : near(3);
        int i = near(5);
        int j = near(5);
        int n = near(5);
        int want;
        if (s < 0 || s > 3 || t < 0 || t > 3) {
            want = -2;
        } else if (rows[s] == null || rows[t] == null) {
            want = found(1);
        } else if (formOf(rows[s]) != formOf(rows[t])) {
            want = found(4);
        } else {
            want = 1;
            try {
                System.arraycopy(rows[s], i, rows[t], j, n);
            } catch (IndexOutOfBoundsException e) {
                want = found(2);
            }
        }
        CHECK.due("copy", x.copy(s, i, t, j, n), want);
    }

    private static void loseOrWrite(LostTicket x, int s) {
        boolean there = s >= 0 && s <= 3 && rows[s] != null;
        int refused = s < 0 || s > 3 ? -2 : there ? 0 : found(1);
        if (RANDOM.nextInt(3) == 0) {
            CHECK.due("lose", x.lose(s), there ? sizeOf(rows[s]) : refused);
            if (there) {
                rows[s] = null;
            }
            return;
        }
        int seed = RANDOM.nextInt();
        int many = there ? Math.min(6, sizeOf(rows[s])) : 0;
        for (int p = 0; p < many; p++) {
            put(rows[s], p, x.evening(seed, p));
        }
        CHECK.due("write", x.write(seed, s), there ? many : refused);
    }

    private static void edges() {
        LostTicket x = new LostTicket();
        CHECK.due("60", x.sheet(3, 2, 60), 60);
        CHECK.due("61", x.sheet(3, 2, 61), LostTicket.BAD);
        CHECK.due("BAD ahead of SIZE", x.sheet(3, 3, -1), LostTicket.BAD);
        CHECK.due("the last item", x.lay(3, 2, 59, LEAST), 1);
        CHECK.due("the least int as item", x.get(3, 2, 59), LEAST);
        CHECK.due("that was no finding", x.count(8), 0);
        CHECK.due("no items", x.sheet(0, 2, 0), 0);
        CHECK.due("none, but not lost", x.copy(0, 0, 3, 60, 0), 1);
        CHECK.due("above with n 0", x.copy(0, 1, 3, 60, 0), -12);
        CHECK.due("above with n 0", x.copy(0, 0, 3, 61, 0), -12);
        CHECK.due("lose none", x.lose(0), 0);
        CHECK.due("CAST ahead of INDEX", x.lay(3, 0, 60, 1), -13);
        CHECK.due("a new row", x.sheet(3, 2, 60), 60);
        CHECK.due("is 0 at first", x.get(3, 2, 59), 0);
        for (int what : new int[] {-1, 9, LEAST, Integer.MAX_VALUE}) {
            CHECK.due("count BAD", x.count(what), LostTicket.BAD);
        }
    }
}
