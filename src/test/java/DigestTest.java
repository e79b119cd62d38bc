import java.util.Random;

/** Promise 33, and that no answer is of an earlier state: one object changed again and again. */
public final class DigestTest {
    private static final Check CHECK = new Check();
    private static final Random RANDOM = new Random(33);
    private static long h;

    // SEATS, PEOPLE, SEEN (person:SEAT) and the digest that is due: reckoned by a program in another
    // language, with fractions without end, which writes out every sitting of up to eight people.
    private static final String[] HOUSES = {
        "ww;mmw 4l2o1o0n3o - -471599765384328653",
        "wwmma 1o3o2o0o3o 1:3,2:2 -7545391260209497288",
        "mmawa 4s0o1s 2:1,1:2 5350189357822404307",
        "a;a;waa 0o1s4o2o3s 4:3 -9046248613853109273",
        "a;amwa 1o2n4o0o -1:3 9189567103131335760",
        "w;a;m;w;w 0o1o4l3o -1:1 8673790635527987015",
        "w;mam;wa 0o1o4l2o5l3l 1:1,1:1 427212613694148727",
        "w;m;aawm 3o1s3o5s 3:4 -2365103058087721768",
        "mammwa 1o3o4o2o5o 0:1 -2631448108311832540",
        "a;m;wwaw 0o0o0o5o0s - -5273246022693509843",
        "wwaa;wm 0s3s2o5o1o -1:1,-1:1 1122015238952164476",
        "mmamma 5s4o3s0s 1:4,0:5 7253402777285321515",
        "maaaa;a 5o3n0s2s0o3o 5:4 -8549949064156385069",
        "amww;a;w 1o3o0o5s -1:2,2:0 -4090310963874919423",
        "waw;wmw;a 5o3o4o6o0o1o -1:5,-1:5 -2670418525879112596",
        "m;awama;m 0o2o5l4o1n6n -1:4,-1:4 941913793046157455",
        "am;mmwwa 6s3o0o1o5o4o2o 2:0 -2661597582547855066",
        "wmaw;wm;m 6s6l2o2o4o0o3l - -3971543527459453091",
        "a;maa;mww 4o0l6o5o1l3o2o - 8511606639927965579",
        "w;w;wwmwa 1n1o2n0o2o2o6o 2:2,1:3 7372984731556589882",
        "mw;wmwma 6o2o5o4n1o0o3o - 2533016127182582616",
        "wawamm;w 4o4s3s0o1o5o4s - -6211721401680911233",
        "amw;aaw;wm 7s5o1s0o2o6o4o3o 5:6,7:4 -8892362629877503890",
        "waawwmw;a 3n2n3o0o3s2n0s5o 0:3 2253839078757394093",
        "mmwwww;mw 3o5o2o1o7o4n0o6o 2:2,1:5 5929109027629905832",
        "awaa;wamm 3s7o2o0o5s6o1o -1:2 -2748272402167717610",
        "wm;a;w;a;a;mm 5n4o2o7o1o3n0n6o - -4047013470609723577",
        "a;awwamwa 1n5o0o3l6n4n - -1113978275062138436"
    };

    public static void main(String[] args) {
        CHECK.due("as told, of a new one", new LostTicket().digest(), digest(new LostTicket()));
        for (String house : HOUSES) {
            asReckonedElsewhere(house);
        }
        for (int run = 0; run < 60; run++) {
            oneRun();
        }
        CHECK.end("DigestTest");
    }

    private static void asReckonedElsewhere(String house) {
        String[] told = house.split(" ");
        LostTicket x = TextsTest.typed(told[0], told[1]);
        for (String sight : told[2].equals("-") ? new String[0] : told[2].split(",")) {
            String[] pair = sight.split(":");
            x.seen(Integer.parseInt(pair[0]), Integer.parseInt(pair[1]));
        }
        CHECK.due(house, x.digest(), Long.parseLong(told[3]));
    }

    private static void oneRun() {
        LostTicket x = new LostTicket();
        String[] texts = {"", ""};
        String seen = "";
        for (int call = 0; call < 60; call++) {
            int act = RANDOM.nextInt(12);
            if (act == 0) {
                int text = RANDOM.nextInt(2);
                x.wipe(text);
                texts[text] = "";
            } else if (act == 1) {
                x.forget();
                seen = "";
            } else if (act <= 3 && seen.length() < 16) {
                int person = RANDOM.nextInt(5) - 1;
                int seat = RANDOM.nextInt(5);
                x.seen(person, seat);
                seen += (char) ('1' + person) + "" + seat;
            } else {
                int text = texts[0].length() < 5 ? 0 : RANDOM.nextInt(2);
                String more = text == 0 ? RANDOM.nextInt(6) == 0 ? ";" : "" + "wma".charAt(RANDOM.nextInt(3))
                        : RANDOM.nextInt(6) + "" + "olnsoo".charAt(RANDOM.nextInt(6));
                if (texts[text].length() + more.length() <= 20) {
                    TextsTest.type(x, text, more);
                    texts[text] += more;
                }
            }
            compare(x, texts, seen);
        }
    }

    private static void compare(LostTicket x, String[] texts, String seen) {
        LostTicket fresh = TextsTest.typed(texts[0], texts[1]);
        for (int i = 0; i < seen.length(); i += 2) {
            fresh.seen(seen.charAt(i) - '1', seen.charAt(i + 1) - '0');
        }
        String name = texts[0] + " " + texts[1] + " " + seen;
        for (int i = 0; i < 6; i++) {
            CHECK.due(name + " order", x.order(i), fresh.order(i));
        }
        CHECK.due(name + " as of a fresh one", x.digest(), fresh.digest());
        CHECK.due(name + " as told", x.digest(), digest(fresh));
        CHECK.due(name + " counts no finding", x.count(8), 0);
    }

    private static void mix(long v) {
        h = 31 * h + v;
    }

    private static long digest(LostTicket x) {
        h = 17;
        for (int what = 0; what < 8; what++) {
            mix(x.count(what));
        }
        mix(x.fault(0));
        mix(x.fault(1));
        for (int seat = 0; seat < x.count(0); seat++) {
            mix(x.seat(seat, 0));
            mix(x.seat(seat, 1));
            mix(x.seat(seat, 2));
            mix(x.left(seat, 0));
            mix(x.left(seat, 1));
        }
        for (int person = 0; person < x.count(2); person++) {
            mix(x.person(person, 0));
            mix(x.person(person, 1));
            mix(x.likely(person, x.person(person, 0), 0));
            mix(x.likely(person, x.person(person, 0), 1));
        }
        mix(x.wrong(-1, 0));
        mix(x.wrong(-1, 1));
        mix(x.looks(0));
        mix(x.looks(1));
        int first = 0;
        for (int i = 0; i < x.count(2); i++) {
            first += 1 << i;
        }
        mix(x.taken(x.count(2), first, 0));
        mix(x.taken(x.count(2), first, 1));
        mix(x.best(0));
        mix(x.best(1));
        mix(x.losers());
        mix(x.likeliest());
        mix(x.ask(0));
        mix(x.ask(1));
        mix(x.evening(7, -1));
        mix(x.turned(5, 2, 0));
        mix(x.turned(5, 2, 1));
        return h;
    }
}
