import java.util.function.Supplier;
import java.util.function.ToLongFunction;

/** Promises 26 to 30, 32 and 33, SHEETS and FINDINGS: each sentence that names an edge, by itself. */
public final class SheetEdgesTest {
    private static final Check CHECK = new Check();
    private static final Edge EDGE = new Edge(CHECK);
    private static final int LEAST = Integer.MIN_VALUE, MOST = Integer.MAX_VALUE;
    private static final int[] NO_SHEETS = {LEAST, -1, 4, 5, 256, MOST};
    private static final int[] NO_FORMS = {LEAST, -1, 3, 4, MOST};

    public static void main(String[] args) {
        sheetOfNoneTo60();
        sheetIsNew();
        sheetRefuses();
        loseTellsHowMany();
        loseRefuses();
        layTheLowestBits();
        layFirstAndLastItem();
        layRefuses();
        getRefuses();
        getTheLeastIntThatIsAnItem();
        copyWholeAndNone();
        copyWithinOneAsItWas();
        copyRefusesSheets();
        copyRefusesForms();
        copyRefusesItems();
        copyOrderOfRefusals();
        countOfEach();
        countLatestFinding();
        countRefuses();
        digestOfOneSeatByHand();
        digestAsItIsTold();
        digestLeavesSheetsAndFindings();
        CHECK.end("SheetEdgesTest");
    }

    /** 0: three bytes 1 2 3; 1: two shorts 4 5; 2: three bytes 7 8 9; 3 LOST; the latest FINDING is SIZE. */
    private static LostTicket rows() {
        LostTicket x = TextsTest.typed("wm;a", "0l1o");
        fill(x, 0, 0, 1, 2, 3);
        fill(x, 1, 1, 4, 5);
        fill(x, 2, 0, 7, 8, 9);
        x.sheet(3, 2, -1);
        return x;
    }

    private static void fill(LostTicket x, int s, int form, int... items) {
        x.sheet(s, form, items.length);
        for (int i = 0; i < items.length; i++) {
            x.lay(s, form, i, items[i]);
        }
    }

    private static void items(String name, LostTicket x, int s, int form, int... want) {
        for (int i = 0; i < want.length; i++) {
            CHECK.due(name + ", item " + i, x.get(s, form, i), want[i]);
        }
        x.get(s, form, want.length);
        CHECK.due(name + ", no item more", x.count(8), 2);
    }

    private static void refused(String name, ToLongFunction<LostTicket> call, long want) {
        EDGE.refused(name, SheetEdgesTest::rows, call, want);
    }

    private static void found(String name, ToLongFunction<LostTicket> call, long want, int number) {
        EDGE.found(name, SheetEdgesTest::rows, call, want, number);
    }

    // ---- 26

    private static void sheetOfNoneTo60() {
        for (int s = 0; s < 4; s++) {
            for (int form = 0; form <= 2; form++) {
                for (int n : new int[] {0, 1, 59, 60}) {
                    LostTicket x = new LostTicket();
                    CHECK.due("26: n", x.sheet(s, form, n), n);
                    items("26: 0 at first", x, s, form, new int[n]);
                    CHECK.due("26: so many", x.lose(s), n);
                }
            }
        }
    }

    private static void sheetIsNew() {
        LostTicket x = rows();
        CHECK.due("26: of the same FORM", x.sheet(0, 0, 3), 3);
        items("26: 0 again", x, 0, 0, 0, 0, 0);
        x.sheet(0, 2, 5);
        items("26: of another FORM, longer", x, 0, 2, 0, 0, 0, 0, 0);
        fill(x, 0, 2, 1, 2, 3, 4, 5);
        x.sheet(0, 2, 2);
        x.sheet(0, 2, 5);
        items("26: nothing of a longer one comes back", x, 0, 2, 0, 0, 0, 0, 0);
        items("26: the others stay", x, 1, 1, 4, 5);
    }

    private static void sheetRefuses() {
        for (int s : NO_SHEETS) {
            refused("26: SHEET " + s, x -> x.sheet(s, 0, 3), Edge.BAD);
            refused("26: BAD SHEET ahead of SIZE", x -> x.sheet(s, 0, -1), Edge.BAD);
        }
        for (int form : NO_FORMS) {
            refused("26: FORM " + form, x -> x.sheet(0, form, 3), Edge.BAD);
            refused("26: BAD FORM ahead of SIZE", x -> x.sheet(0, form, -1), Edge.BAD);
        }
        for (int n : new int[] {61, 62, 128, MOST}) {
            refused("26: above 60: " + n, x -> x.sheet(0, 0, n), Edge.BAD);
            refused("26: above 60, LOST: " + n, x -> x.sheet(3, 0, n), Edge.BAD);
        }
        for (int n : new int[] {-1, -2, LEAST}) {
            found("26: below 0: " + n, x -> x.sheet(0, 0, n), Edge.SIZE, 5);
            found("26: below 0, LOST: " + n, x -> x.sheet(3, 1, n), Edge.SIZE, 5);
        }
    }

    // ---- 27

    private static void loseTellsHowMany() {
        LostTicket x = rows();
        CHECK.due("27: three", x.lose(0), 3);
        CHECK.due("27: LOST now", x.lose(0), Edge.NULL);
        x.sheet(0, 2, 60);
        CHECK.due("27: sixty", x.lose(0), 60);
        x.sheet(0, 2, 0);
        CHECK.due("27: none, but not LOST", x.lose(0), 0);
        CHECK.due("27: LOST now", x.lose(0), Edge.NULL);
        CHECK.due("27: the others stay", x.lose(1), 2);
    }

    private static void loseRefuses() {
        for (int s : NO_SHEETS) {
            refused("27: SHEET " + s, x -> x.lose(s), Edge.BAD);
        }
        found("27: LOST", x -> x.lose(3), Edge.NULL, 1);
    }

    // ---- 28

    private static void layTheLowestBits() {
        int[][] bytes = {{0, 0}, {127, 127}, {128, -128}, {129, -127}, {255, -1}, {256, 0}, {-1, -1},
            {-128, -128}, {-129, 127}, {MOST, -1}, {LEAST, 0}, {0x12345680, -128}};
        int[][] shorts = {{0, 0}, {32767, 32767}, {32768, -32768}, {65535, -1}, {65536, 0}, {-1, -1},
            {-32768, -32768}, {-32769, 32767}, {MOST, -1}, {LEAST, 0}, {0x12348000, -32768}, {128, 128}};
        int[][] ints = {{0, 0}, {MOST, MOST}, {LEAST, LEAST}, {-1, -1}, {65536, 65536}, {256, 256}};
        int[][][] all = {bytes, shorts, ints};
        for (int form = 0; form <= 2; form++) {
            for (int[] v : all[form]) {
                LostTicket x = new LostTicket();
                x.sheet(0, form, 1);
                CHECK.due("28: lay", x.lay(0, form, 0, v[0]), 1);
                CHECK.due("28: " + v[0] + " by FORM " + form, x.get(0, form, 0), v[1]);
            }
        }
    }

    private static void layFirstAndLastItem() {
        for (int form = 0; form <= 2; form++) {
            LostTicket x = new LostTicket();
            x.sheet(3, form, 60);
            CHECK.due("28: the first", x.lay(3, form, 0, 5), 1);
            CHECK.due("28: the last", x.lay(3, form, 59, 6), 1);
            CHECK.due("28: behind it", x.lay(3, form, 60, 7), Edge.INDEX);
            CHECK.due("29: the first", x.get(3, form, 0), 5);
            CHECK.due("29: beside it", x.get(3, form, 1), 0);
            CHECK.due("29: the last", x.get(3, form, 59), 6);
        }
    }

    private static LostTicket emptyRow() {
        LostTicket x = rows();
        x.sheet(3, 0, 0);
        return x;
    }

    private static void layRefuses() {
        for (int s : NO_SHEETS) {
            refused("28: SHEET " + s, x -> x.lay(s, 0, 0, 9), Edge.BAD);
        }
        for (int form : NO_FORMS) {
            refused("28: FORM " + form, x -> x.lay(0, form, 0, 9), Edge.BAD);
            refused("28: BAD ahead of NULL", x -> x.lay(3, form, 0, 9), Edge.BAD);
        }
        for (int f = 0; f <= 2; f++) {
            int form = f;
            found("28: LOST", x -> x.lay(3, form, 0, 9), Edge.NULL, 1);
            found("28: NULL ahead of INDEX", x -> x.lay(3, form, -1, 9), Edge.NULL, 1);
            if (form != 0) {
                found("28: another FORM", x -> x.lay(0, form, 0, 9), Edge.CAST, 3);
                found("28: CAST ahead of INDEX", x -> x.lay(0, form, 3, 9), Edge.CAST, 3);
                found("28: CAST ahead of INDEX", x -> x.lay(0, form, -1, 9), Edge.CAST, 3);
            }
        }
        for (int i : new int[] {LEAST, -1, 3, 4, 59, 60, MOST}) {
            found("28: item " + i, x -> x.lay(0, 0, i, 9), Edge.INDEX, 2);
        }
        EDGE.found("28: an item of none", SheetEdgesTest::emptyRow, x -> x.lay(3, 0, 0, 9), Edge.INDEX, 2);
        EDGE.found("29: an item of none", SheetEdgesTest::emptyRow, x -> x.get(3, 0, 0), LEAST, 2);
    }

    // ---- 29

    private static void getRefuses() {
        for (int s : NO_SHEETS) {
            refused("29: SHEET " + s, x -> x.get(s, 0, 0), LEAST);
        }
        for (int form : NO_FORMS) {
            refused("29: FORM " + form, x -> x.get(0, form, 0), LEAST);
            refused("29: BAD ahead of NULL", x -> x.get(3, form, 0), LEAST);
        }
        for (int f = 0; f <= 2; f++) {
            int form = f;
            found("29: LOST", x -> x.get(3, form, 0), LEAST, 1);
            found("29: NULL ahead of INDEX", x -> x.get(3, form, -1), LEAST, 1);
            if (form != 0) {
                found("29: another FORM", x -> x.get(0, form, 0), LEAST, 3);
                found("29: CAST ahead of INDEX", x -> x.get(0, form, 3), LEAST, 3);
            }
        }
        for (int i : new int[] {LEAST, -1, 3, 4, 59, 60, MOST}) {
            found("29: item " + i, x -> x.get(0, 0, i), LEAST, 2);
        }
    }

    private static void getTheLeastIntThatIsAnItem() {
        LostTicket x = rows();
        fill(x, 0, 2, LEAST);
        CHECK.due("29: the least int", x.get(0, 2, 0), LEAST);
        CHECK.due("29: is no FINDING", x.count(8), 5);
    }

    // ---- 30

    private static void copyWholeAndNone() {
        LostTicket x = rows();
        CHECK.due("30: all", x.copy(0, 0, 2, 0, 3), 1);
        items("30: all", x, 2, 0, 1, 2, 3);
        items("30: whence it came", x, 0, 0, 1, 2, 3);
        x = rows();
        CHECK.due("30: the last", x.copy(0, 2, 2, 0, 1), 1);
        items("30: the last", x, 2, 0, 3, 8, 9);
        x = rows();
        CHECK.due("30: to the last", x.copy(0, 0, 2, 2, 1), 1);
        items("30: to the last", x, 2, 0, 7, 8, 1);
        for (int at = 0; at <= 3; at++) {
            x = rows();
            CHECK.due("30: none, at " + at, x.copy(0, at, 2, 3 - at, 0), 1);
            items("30: none, at " + at, x, 2, 0, 7, 8, 9);
        }
        x = rows();
        fill(x, 3, 0);
        CHECK.due("30: none of none", x.copy(3, 0, 3, 0, 0), 1);
        CHECK.due("30: none of none", x.copy(3, 0, 0, 3, 0), 1);
        CHECK.due("30: no FINDING", x.count(8), 5);
    }

    private static void copyWithinOneAsItWas() {
        LostTicket x = rows();
        fill(x, 3, 2, 1, 2, 3, 4, 5);
        CHECK.due("30: to the right", x.copy(3, 0, 3, 1, 4), 1);
        items("30: to the right, as they were", x, 3, 2, 1, 1, 2, 3, 4);
        fill(x, 3, 2, 1, 2, 3, 4, 5);
        CHECK.due("30: to the left", x.copy(3, 1, 3, 0, 4), 1);
        items("30: to the left, as they were", x, 3, 2, 2, 3, 4, 5, 5);
        CHECK.due("30: in place", x.copy(3, 0, 3, 0, 5), 1);
        items("30: in place", x, 3, 2, 2, 3, 4, 5, 5);
    }

    private static void copyRefusesSheets() {
        for (int s : NO_SHEETS) {
            refused("30: s " + s, x -> x.copy(s, 0, 0, 0, 1), Edge.BAD);
            refused("30: t " + s, x -> x.copy(0, 0, s, 0, 1), Edge.BAD);
            refused("30: BAD t ahead of NULL s", x -> x.copy(3, 0, s, 0, 1), Edge.BAD);
            refused("30: BAD s ahead of NULL t", x -> x.copy(s, 0, 3, 0, 1), Edge.BAD);
        }
        found("30: s is LOST", x -> x.copy(3, 0, 0, 0, 1), Edge.NULL, 1);
        found("30: t is LOST", x -> x.copy(0, 0, 3, 0, 1), Edge.NULL, 1);
        found("30: both are LOST", x -> x.copy(3, 0, 3, 0, 0), Edge.NULL, 1);
    }

    private static void copyRefusesForms() {
        found("30: bytes to shorts", x -> x.copy(0, 0, 1, 0, 1), Edge.STORE, 4);
        found("30: shorts to bytes", x -> x.copy(1, 0, 0, 0, 1), Edge.STORE, 4);
        found("30: with n 0, too", x -> x.copy(1, 0, 0, 0, 0), Edge.STORE, 4);
        Supplier<LostTicket> ints = () -> {
            LostTicket x = rows();
            fill(x, 3, 2, 6);
            return x;
        };
        EDGE.found("30: ints to bytes", ints, x -> x.copy(3, 0, 0, 0, 1), Edge.STORE, 4);
        EDGE.found("30: shorts to ints", ints, x -> x.copy(1, 0, 3, 0, 1), Edge.STORE, 4);
    }

    private static void copyRefusesItems() {
        int[][] wrong = {{-1, 0, 1}, {0, -1, 1}, {0, 0, -1}, {0, 0, 4}, {1, 0, 3}, {0, 1, 3}, {3, 0, 1},
            {0, 3, 1}, {4, 0, 0}, {0, 4, 0}, {-1, 0, 0}, {0, -1, 0}, {4, 0, -1}, {2, 2, 2},
            {LEAST, 0, 1}, {0, LEAST, 1}, {0, 0, LEAST}, {MOST, 0, 1}, {0, MOST, 1}, {0, 0, MOST},
            {1, 0, MOST}, {0, 1, MOST}, {MOST, MOST, MOST}, {LEAST, LEAST, LEAST}, {MOST, 0, LEAST},
            {0, MOST, LEAST}, {60, 0, 0}, {0, 60, 0}};
        for (int[] w : wrong) {
            found("30: " + w[0] + " " + w[1] + " " + w[2], x -> x.copy(0, w[0], 2, w[1], w[2]), Edge.INDEX, 2);
            found("30: within one", x -> x.copy(0, w[0], 0, w[1], w[2]), Edge.INDEX, 2);
        }
        Supplier<LostTicket> unlike = () -> {
            LostTicket x = rows();
            fill(x, 3, 0, 6);
            return x;
        };
        EDGE.found("30: t has fewer", unlike, x -> x.copy(0, 0, 3, 0, 2), Edge.INDEX, 2);
        EDGE.found("30: s has fewer", unlike, x -> x.copy(3, 0, 0, 0, 2), Edge.INDEX, 2);
        EDGE.found("30: j is above how many t has", unlike, x -> x.copy(0, 0, 3, 2, 0), Edge.INDEX, 2);
        EDGE.found("30: i is above how many s has", unlike, x -> x.copy(3, 2, 0, 0, 0), Edge.INDEX, 2);
    }

    private static void copyOrderOfRefusals() {
        refused("30: BAD ahead of all", x -> x.copy(4, -1, 3, -1, -1), Edge.BAD);
        found("30: NULL ahead of STORE and INDEX", x -> x.copy(3, -1, 1, -1, -1), Edge.NULL, 1);
        found("30: STORE ahead of INDEX", x -> x.copy(0, -1, 1, -1, -1), Edge.STORE, 4);
        found("30: STORE ahead of INDEX", x -> x.copy(0, 9, 1, 9, 9), Edge.STORE, 4);
    }

    // ---- 32

    private static void counts(LostTicket x, int... want) {
        for (int what = 0; what < want.length; what++) {
            CHECK.due("32: count " + what, x.count(what), want[what]);
        }
    }

    private static void countOfEach() {
        counts(new LostTicket(), 0, 0, 0, 0, 0, 0, 0, 0, 0);
        counts(TextsTest.typed("w;w;w;w;w;w;w;w", "0l0l0l0l0l0l0l0l"), 8, 8, 8, 15, 16, 0, 8, 7, 0);
        counts(TextsTest.typed("wwwwwwww", "0o1n2s3l4o5o6o7o"), 8, 1, 8, 8, 16, 0, 1, 0, 0);
        counts(TextsTest.typed("wwwwwwwww", "0l"), 0, 0, 0, 9, 2, 0, 0, 0, 0);
        counts(TextsTest.typed("ww;a", "0l1"), 3, 2, 0, 4, 3, 0, 0, 3, 0);
        LostTicket x = TextsTest.typed("x".repeat(20), "y".repeat(20));
        for (int i = 0; i < 8; i++) {
            x.seen(-1, i);
        }
        counts(x, 0, 0, 0, 20, 20, 8, 0, 0, 0);
    }

    private static void countLatestFinding() {
        LostTicket x = rows();
        CHECK.due("32: SIZE", x.count(8), 5);
        x.lose(3);
        CHECK.due("32: NULL", x.count(8), 1);
        x.get(0, 0, 3);
        CHECK.due("32: INDEX", x.count(8), 2);
        x.get(0, 1, 0);
        CHECK.due("32: CAST", x.count(8), 3);
        x.copy(0, 0, 1, 0, 1);
        CHECK.due("32: STORE", x.count(8), 4);
        x.get(0, 0, 0);
        x.lay(0, 0, 0, 1);
        x.lose(2);
        x.type(0, 256);
        x.wipe(0);
        x.order(-1);
        x.share(0, 0);
        x.ask(0);
        x.forget();
        x.digest();
        CHECK.due("32: what is no FINDING leaves it", x.count(8), 4);
        CHECK.due("32: of each object its own", new LostTicket().count(8), 0);
    }

    private static void countRefuses() {
        for (int what : new int[] {LEAST, -1, 9, 10, 256, MOST}) {
            refused("32: count " + what, x -> x.count(what), Edge.BAD);
        }
    }

    // ---- 33

    private static void digest(String name, LostTicket x, long... told) {
        long h = 17;
        for (long v : told) {
            h = 31 * h + v;
        }
        CHECK.due("33: " + name, x.digest(), h);
    }

    private static void digestOfOneSeatByHand() {
        digest("one SEAT, one plain", TextsTest.typed("m", "0o"),
                1, 1, 1, 1, 2, 0, 0, 0, -1, -1, 1, 0, 1, 0, 1, 0, 0, 1, 1, 0, 1, 0, 1, 1, 1, 0, 1,
                1, 0, 0, 1, 0, 47, 30);
        digest("two SEATS, one lost", TextsTest.typed("w;a", "1l"),
                2, 2, 1, 3, 2, 0, 1, 1, -1, -1,
                0, 0, 0, 1, 2, 2, 1, 1, 1, 2,
                1, 1, 1, 2, 1, 2, 0, 1, 1, 2, 1, 2,
                0, -1, -3, -3, 1, 47, 30);
    }

    private static void digestAsItIsTold() {
        long full = 0x8000000000000004L;
        digest("seven are too many for best()", TextsTest.typed("wwwwwww", "0n0n0n0n0n0n0n"),
                7, 1, 7, 7, 14, 0, 0, 6, -1, -1,
                0, 0, 127, 0, 1, 0, 0, 0, 0, 1, 0, 0, 0, 0, 1, 0, 0, 0, 0, 1, 0, 0, 0, 0, 1,
                0, 0, 0, 0, 1, 0, 0, 0, 0, 1,
                0, 2, 1, 1, 0, 2, 0, 1, 0, 2, 0, 1, 0, 2, 0, 1, 0, 2, 0, 1, 0, 2, 0, 1, 0, 2, 0, 1,
                6, 1, 21, 1, 1, 1, full, full, 0, -1, -3, -3, 6, 47, 30);
        digest("SEATS with a FAULT", TextsTest.typed("w;", "0o"),
                0, 0, 0, 2, 2, 0, 0, 0, 2, 0, 0, 1, 0, 1, 1, 1, 0, 1, 0, -1, -3, -3, 0, 47, 30);
    }

    private static void digestLeavesSheetsAndFindings() {
        LostTicket x = TextsTest.typed("wm;a", "0l1o");
        long digest = x.digest();
        x.sheet(0, 0, 3);
        x.lose(3);
        CHECK.due("33: SHEETS and count() 8 are not in it", x.digest(), digest);
        x.seen(0, 0);
        CHECK.holds("33: SEEN is", x.digest() != digest);
        x.forget();
        CHECK.due("33: as before", x.digest(), digest);
    }
}
