import java.math.BigInteger;
import java.util.ArrayList;
import java.util.Arrays;
import java.util.List;
import java.util.Random;

/** Houses by chance (of a fixed seed): every answer against the plain one, promises 5 to 25 and 31. */
public final class ChancesTest {
    private static final Check CHECK = new Check();
    private static final Random RANDOM = new Random(20261118);

    public static void main(String[] args) {
        for (int round = 0; round < 700; round++) {
            int seats = round < 40 ? round % 9 : 1 + RANDOM.nextInt(6);
            look(house(seats, RANDOM.nextInt(Math.min(seats, 6) + 1)), round);
        }
        for (int round = 0; round < 6; round++) {
            look(house(8, 8), 1000 + round);
            look(house(7 + round % 2, 6), 2000 + round);
        }
        for (int round = 0; round < 150; round++) {
            Naive n = house(6 + RANDOM.nextInt(3), 5 + RANDOM.nextInt(2));
            lookAtLongOrder(n, typed(n), "order of round " + round + ": ");
        }
        CHECK.end("ChancesTest");
    }

    private static Naive house(int seats, int people) {
        StringBuilder text = new StringBuilder();
        for (int i = 0; i < seats; i++) {
            text.append("wma".charAt(RANDOM.nextInt(3)));
        }
        int[] own = new int[people];
        char[] kind = new char[people];
        String kinds = RANDOM.nextInt(3) == 0 ? "ooool" : "olnso";
        boolean distinct = RANDOM.nextBoolean();
        List<Integer> mixed = new ArrayList<>();
        for (int seat = 0; seat < seats; seat++) {
            mixed.add(RANDOM.nextInt(seat + 1), seat);
        }
        for (int i = 0; i < people; i++) {
            own[i] = distinct ? mixed.get(i) : RANDOM.nextInt(seats);
            kind[i] = kinds.charAt(RANDOM.nextInt(kinds.length()));
        }
        return new Naive(text.toString(), own, kind);
    }

    private static LostTicket typed(Naive n) {
        LostTicket x = new LostTicket();
        for (int i = 0; i < n.seats.length(); i++) {
            if (i > 0 && i % 3 == 0) {
                x.type(0, ';');
            }
            x.type(0, n.seats.charAt(i));
        }
        for (int i = 0; i < n.own.length; i++) {
            x.type(1, '0' + n.own[i]);
            x.type(1, n.kind[i]);
        }
        return x;
    }

    private static void look(Naive n, int round) {
        LostTicket x = typed(n);
        String name = "round " + round + " " + n.seats + " " + Arrays.toString(n.own)
                + new String(n.kind) + ": ";
        lookAtHouse(n, x, name);
        lookAtChances(n, x, name);
        lookAtSittings(n, x, name);
        lookAtOrder(n, x, name);
        lookAtEvenings(n, x, name);
        if (n.seats.length() <= 6) {
            for (int i = 0; i < 4; i++) {
                lookAtLosers(n, x, name + "seen " + i + " ");
            }
        }
    }

    private static void lookAtHouse(Naive n, LostTicket x, String name) {
        CHECK.due(name + "count(0)", x.count(0), n.seats.length());
        CHECK.due(name + "count(1)", x.count(1), (n.seats.length() + 2) / 3);
        CHECK.due(name + "count(2)", x.count(2), n.own.length);
        int nobodys = 0;
        for (int seat = 0; seat < n.seats.length(); seat++) {
            int owners = 0;
            for (int i = 0; i < n.own.length; i++) {
                owners += n.own[i] == seat ? 1 << i : 0;
            }
            nobodys += owners == 0 ? 1 : 0;
            CHECK.due(name + "seat 0", x.seat(seat, 0), "wma".indexOf(n.seats.charAt(seat)));
            CHECK.due(name + "seat 1", x.seat(seat, 1), seat / 3);
            CHECK.due(name + "seat 2", x.seat(seat, 2), owners);
        }
        int lost = 0;
        for (int i = 0; i < n.own.length; i++) {
            lost += n.kind[i] == 'l' ? 1 : 0;
            CHECK.due(name + "person 0", x.person(i, 0), n.own[i]);
            CHECK.due(name + "person 1", x.person(i, 1), "olns".indexOf(n.kind[i]));
        }
        CHECK.due(name + "count(6)", x.count(6), lost);
        CHECK.due(name + "count(7)", x.count(7), nobodys);
    }

    private static void ratio(String name, long above, long below, Naive.Ratio want) {
        CHECK.due(name + " above", above, want.part(0));
        CHECK.due(name + " below", below, want.part(1));
    }

    private static void lookAtChances(Naive n, LostTicket x, String name) {
        for (int seat = 0; seat < n.seats.length(); seat++) {
            int s = seat;
            for (int person = 0; person < n.own.length; person++) {
                int p = person;
                ratio(name + "likely " + p + " " + s, x.likely(p, s, 0), x.likely(p, s, 1),
                        n.chance(o -> o.at()[p] == s));
            }
            ratio(name + "left " + s, x.left(s, 0), x.left(s, 1),
                    n.chance(o -> n.isFree(o.at(), n.own.length, s)));
        }
        for (int i = 0; i < 12; i++) {
            int k = RANDOM.nextInt(n.own.length + 1);
            int set = RANDOM.nextInt(1 << n.seats.length());
            int may = RANDOM.nextBoolean() ? set
                    : Naive.taken(n.outcomes().get(RANDOM.nextInt(n.outcomes().size())), k);
            ratio(name + "taken " + k + " " + may, x.taken(k, may, 0), x.taken(k, may, 1),
                    n.chance(o -> Naive.taken(o, k) == may));
        }
        ratio(name + "wrong", x.wrong(-1, 0), x.wrong(-1, 1), n.mean(n::wrongs));
        for (int k = 0; k <= n.own.length; k++) {
            int many = k;
            ratio(name + "wrong " + k, x.wrong(k, 0), x.wrong(k, 1),
                    n.chance(o -> n.wrongs(o) == many));
        }
        ratio(name + "looks", x.looks(0), x.looks(1), n.mean(n::looks));
    }

    private static void lookAtSittings(Naive n, LostTicket x, String name) {
        for (int i = 0; i < 6; i++) {
            int[] at = n.outcomes().get(RANDOM.nextInt(n.outcomes().size())).at().clone();
            if (at.length > 0 && RANDOM.nextBoolean()) {
                at[RANDOM.nextInt(at.length)] = RANDOM.nextInt(n.seats.length() + 2) - 1;
            }
            int form = RANDOM.nextInt(3);
            x.sheet(0, form, at.length + RANDOM.nextInt(2));
            for (int p = 0; p < at.length; p++) {
                x.lay(0, form, p, at[p]);
            }
            int cannot = -1;
            for (int p = at.length - 1; p >= 0; p--) {
                cannot = n.where(at, p).contains(at[p]) ? cannot : p;
            }
            CHECK.due(name + "judged " + Arrays.toString(at), x.judged(0), cannot);
            ratio(name + "sitting " + Arrays.toString(at), x.sitting(0, 0), x.sitting(0, 1),
                    n.chance(o -> Arrays.equals(o.at(), at)));
        }
    }

    private static void lookAtOrder(Naive n, LostTicket x, String name) {
        if (n.own.length > 6) {
            CHECK.due(name + "order", x.order(0), LostTicket.FULL);
            CHECK.due(name + "best", x.best(0), Long.MIN_VALUE + 4);
            return;
        }
        if (n.outcomes().size() * Naive.permutations(n.own.length).size() > 200000) {
            lookAtLongOrder(n, x, name);
            return;
        }
        Naive.Ratio[] mean = new Naive.Ratio[1];
        int[] row = n.order(mean);
        for (int i = 0; i < row.length; i++) {
            CHECK.due(name + "order " + i, x.order(i), row[i]);
        }
        ratio(name + "best", x.best(0), x.best(1), mean[0]);
    }

    /** Where writing out is too long: each row as a house of its own, by its wrong(NONE). */
    private static void lookAtLongOrder(Naive n, LostTicket x, String name) {
        int[] best = null;
        Naive.Ratio least = null;
        for (int[] row : Naive.permutations(n.own.length)) {
            int[] own = new int[row.length];
            char[] kind = new char[row.length];
            for (int i = 0; i < row.length; i++) {
                own[i] = n.own[row[i]];
                kind[i] = n.kind[row[i]];
            }
            LostTicket y = typed(new Naive(n.seats, own, kind));
            Naive.Ratio mean = new Naive.Ratio(BigInteger.valueOf(y.wrong(-1, 0)),
                    BigInteger.valueOf(y.wrong(-1, 1)));
            // The rows come from the least on, so that of like ones the first stays.
            if (least == null || mean.compare(least) < 0) {
                best = row;
                least = mean;
            }
        }
        for (int i = 0; i < best.length; i++) {
            CHECK.due(name + "long order " + i, x.order(i), best[i]);
        }
        ratio(name + "long best", x.best(0), x.best(1), least);
    }

    private static void lookAtEvenings(Naive n, LostTicket x, String name) {
        for (int i = 0; i < 6; i++) {
            int seed = i < 2 ? i : RANDOM.nextInt();
            int[] at = n.evening(seed);
            CHECK.due(name + "evening " + seed, x.evening(seed, -1),
                    n.wrongs(new Naive.Outcome(at, 1)));
            x.sheet(1, 0, 7);
            CHECK.due(name + "write " + seed, x.write(seed, 1), Math.min(7, at.length));
            for (int p = 0; p < at.length; p++) {
                CHECK.due(name + "evening " + seed + " of " + p, x.evening(seed, p), at[p]);
                if (p < 7) {
                    CHECK.due(name + "written " + p, x.get(1, 0, p), at[p]);
                }
            }
        }
    }

    private static List<int[]> seenByChance(Naive n) {
        List<int[]> seen = new ArrayList<>();
        Naive.Outcome o = n.outcomes().get(RANDOM.nextInt(n.outcomes().size()));
        for (int i = 0; i < n.own.length; i++) {
            if (n.kind[i] == 'o' && RANDOM.nextBoolean()) {
                List<Naive.Outcome> others = n.with(i).outcomes();
                o = others.get(RANDOM.nextInt(others.size()));
            }
        }
        int many = RANDOM.nextInt(4);
        for (int i = 0; i < many; i++) {
            int person = RANDOM.nextInt(n.own.length + 1) - 1;
            int seat = person >= 0 ? o.at()[person] : RANDOM.nextInt(Math.max(1, n.seats.length()));
            seen.add(new int[] {person, seat});
        }
        if (RANDOM.nextInt(8) == 0) {
            seen.add(new int[] {RANDOM.nextInt(9) - 1, RANDOM.nextInt(8)});
        }
        return seen;
    }

    private static void lookAtLosers(Naive n, LostTicket x, String name) {
        List<int[]> seen = seenByChance(n);
        x.forget();
        for (int[] s : seen) {
            x.seen(s[0], s[1]);
        }
        Naive.Ratio[] weights = n.weights(seen);
        Naive.Ratio total = Naive.ZERO;
        int losers = 0;
        int likeliest = -1;
        for (int i = 0; i < weights.length; i++) {
            total = total.plus(weights[i]);
            losers |= weights[i].above().signum() > 0 ? 1 << i : 0;
            if (weights[i].above().signum() > 0
                    && (likeliest < 0 || weights[i].compare(weights[likeliest]) > 0)) {
                likeliest = i;
            }
        }
        CHECK.due(name + "losers", x.losers(), losers);
        CHECK.due(name + "likeliest", x.likeliest(), likeliest);
        for (int i = 0; i < weights.length; i++) {
            if (n.kind[i] != 'o') {
                CHECK.due(name + "share", x.share(i, 0), Long.MIN_VALUE + 2);
            } else if (losers == 0) {
                CHECK.due(name + "share", x.share(i, 1), Long.MIN_VALUE + 3);
            } else {
                ratio(name + "share", x.share(i, 0), x.share(i, 1), weights[i].by(total));
            }
        }
        int[] ask = n.ask(seen);
        CHECK.due(name + "ask(0)", x.ask(0), ask == null ? LostTicket.NOT : ask[0]);
        CHECK.due(name + "ask(1)", x.ask(1), ask == null ? LostTicket.NOT : ask[1]);
    }
}
