import java.util.function.IntToLongFunction;
import java.util.function.Supplier;
import java.util.function.ToLongFunction;

/** What the tests of edges share: FRACTIONS, and refusals that change nothing. */
final class Edge {
    static final int BAD = -2, NOT = -3, FULL = -4;
    static final int NULL = -11, INDEX = -12, CAST = -13, STORE = -14, SIZE = -15;
    static final int LEAST_INT = Integer.MIN_VALUE, GREATEST_INT = Integer.MAX_VALUE;

    private final Check check;

    Edge(Check check) {
        this.check = check;
    }

    /** "Where the answer is a long, a refusal -x is the least long and x more." */
    static long asLong(int refusal) {
        return new long[] {
            0, 0, 0x8000000000000002L, 0x8000000000000003L, 0x8000000000000004L, 0, 0, 0, 0, 0, 0,
            0x800000000000000BL}[-refusal];
    }

    /** A FRACTION by its two parts; a part beside them is BAD. */
    void fraction(String name, IntToLongFunction call, long above, long below) {
        check.due(name + ", above", call.applyAsLong(0), above);
        check.due(name + ", below", call.applyAsLong(1), below);
        for (int what : new int[] {LEAST_INT, -1, 2, GREATEST_INT}) {
            check.due(name + ", what = " + what, call.applyAsLong(what), asLong(BAD));
        }
    }

    /** A call that is refused, and changes nothing: count() 8 neither. */
    void refused(String name, Supplier<LostTicket> maker, ToLongFunction<LostTicket> call, long want) {
        LostTicket touched = refusedTwin(name, maker, call, want);
        check.due(name + ": count(8) stays", touched.count(8), maker.get().count(8));
        same(name, touched, maker.get());
    }

    /** A call that is refused by a FINDING, and changes nothing but count() 8. */
    void found(String name, Supplier<LostTicket> maker, ToLongFunction<LostTicket> call, long want,
            int number) {
        LostTicket touched = refusedTwin(name, maker, call, want);
        check.due(name + ": count(8) tells", touched.count(8), number);
        same(name, touched, maker.get());
    }

    private LostTicket refusedTwin(String name, Supplier<LostTicket> maker,
            ToLongFunction<LostTicket> call, long want) {
        LostTicket touched = maker.get();
        check.due(name, call.applyAsLong(touched), want);
        return touched;
    }

    private void same(String name, LostTicket touched, LostTicket fresh) {
        String one = everything(touched);
        String two = everything(fresh);
        check.holds(name + " changes nothing: " + one + " / " + two, one.equals(two));
    }

    /** All that can be known of an object but count() 8; it is spent then. */
    static String everything(LostTicket x) {
        StringBuilder all = new StringBuilder();
        for (int what = 0; what < 8; what++) {
            all.append(x.count(what)).append(' ');
        }
        all.append(x.digest()).append(" order");
        for (int i = 0; i < 6; i++) {
            all.append(' ').append(x.order(i));
        }
        for (int s = 0; s < 4; s++) {
            all.append(" sheet ").append(s);
            sheet(x, s, all);
        }
        texts(x, all);
        seen(x, all);
        return all.toString();
    }

    private static void sheet(LostTicket x, int s, StringBuilder all) {
        int form = 0;
        for (int f = 0; f < 3; f++) {
            x.get(s, f, -1);
            form = x.count(8) == 2 ? f : form;
        }
        int[] items = new int[60];
        for (int i = 0; i < 60; i++) {
            items[i] = x.get(s, form, i);
        }
        int size = x.lose(s);
        all.append(size == NULL ? " lost" : " form " + form + " of " + size);
        for (int i = 0; i < size; i++) {
            all.append(' ').append(items[i]);
        }
    }

    /** Bytes behind a FAULT cannot be seen: that the texts end where they did, is. */
    private static void texts(LostTicket x, StringBuilder all) {
        for (int text = 0; text < 2; text++) {
            x.type(text, text == 0 ? 'w' : '0');
            all.append(" fault ").append(x.fault(text)).append(" of ").append(x.wipe(text));
        }
    }

    private static void seen(LostTicket x, StringBuilder all) {
        TextsTest.type(x, 0, "wwwwwwww");
        TextsTest.type(x, 1, "0o1o2o3o4o5o6o7o");
        all.append(" shares");
        for (int person = 0; person < 8; person++) {
            all.append(' ').append(x.share(person, 0)).append('/').append(x.share(person, 1));
        }
        all.append(" seen ").append(x.forget());
    }
}
