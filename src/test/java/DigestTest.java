import java.util.Random;

/** Promise 33, and that no answer is of an earlier state: one object changed again and again. */
public final class DigestTest {
    private static final Check CHECK = new Check();
    private static final Random RANDOM = new Random(33);
    private static long h;

    public static void main(String[] args) {
        CHECK.due("as told, of a new one", new LostTicket().digest(), digest(new LostTicket()));
        for (int run = 0; run < 60; run++) {
            oneRun();
        }
        CHECK.end("DigestTest");
    }

    private static void oneRun() {
        LostTicket x = new LostTicket();
        String[] texts = {"", ""};
        String seen = "";
        for (int call = 0; call < 60; call++) {
            int act = RANDOM.nextInt(12);
            if (act == 0) {
                int text = RANDOM.nextInt(2);
                x.wipe(text);
                texts[text] = "";
            } else if (act == 1) {
                x.forget();
                seen = "";
            } else if (act <= 3 && seen.length() < 16) {
                int person = RANDOM.nextInt(5) - 1;
                int seat = RANDOM.nextInt(5);
                x.seen(person, seat);
                seen += (char) ('1' + person) + "" + seat;
            } else {
                int text = texts[0].length() < 5 ? 0 : RANDOM.nextInt(2);
                String more = text == 0 ? RANDOM.nextInt(6) == 0 ? ";" : "" + "wma".charAt(RANDOM.nextInt(3))
                        : RANDOM.nextInt(6) + "" + "olnsoo".charAt(RANDOM.nextInt(6));
                if (texts[text].length() + more.length() <= 20) {
                    TextsTest.type(x, text, more);
                    texts[text] += more;
                }
            }
            compare(x, texts, seen);
        }
    }

    private static void compare(LostTicket x, String[] texts, String seen) {
        LostTicket fresh = TextsTest.typed(texts[0], texts[1]);
        for (int i = 0; i < seen.length(); i += 2) {
            fresh.seen(seen.charAt(i) - '1', seen.charAt(i + 1) - '0');
        }
        String name = texts[0] + " " + texts[1] + " " + seen;
        for (int i = 0; i < 6; i++) {
            CHECK.due(name + " order", x.order(i), fresh.order(i));
        }
        CHECK.due(name + " as of a fresh one", x.digest(), fresh.digest());
        CHECK.due(name + " as told", x.digest(), digest(fresh));
        CHECK.due(name + " counts no finding", x.count(8), 0);
    }

    private static void mix(long v) {
        h = 31 * h + v;
    }

    private static long digest(LostTicket x) {
        h = 17;
        for (int what = 0; what < 8; what++) {
            mix(x.count(what));
        }
        mix(x.fault(0));
        mix(x.fault(1));
        for (int seat = 0; seat < x.count(0); seat++) {
            mix(x.seat(seat, 0));
            mix(x.seat(seat, 1));
            mix(x.seat(seat, 2));
            mix(x.left(seat, 0));
            mix(x.left(seat, 1));
        }
        for (int person = 0; person < x.count(2); person++) {
            mix(x.person(person, 0));
            mix(x.person(person, 1));
            mix(x.likely(person, x.person(person, 0), 0));
            mix(x.likely(person, x.person(person, 0), 1));
        }
        mix(x.wrong(-1, 0));
        mix(x.wrong(-1, 1));
        mix(x.looks(0));
        mix(x.looks(1));
        int first = 0;
        for (int i = 0; i < x.count(2); i++) {
            first += 1 << i;
        }
        mix(x.taken(x.count(2), first, 0));
        mix(x.taken(x.count(2), first, 1));
        mix(x.best(0));
        mix(x.best(1));
        mix(x.losers());
        mix(x.likeliest());
        mix(x.ask(0));
        mix(x.ask(1));
        mix(x.evening(7, -1));
        mix(x.turned(5, 2, 0));
        mix(x.turned(5, 2, 1));
        return h;
    }
}
