import java.util.ArrayList;
import java.util.Arrays;
import java.util.HashMap;
import java.util.HashSet;
import java.util.List;
import java.util.Map;
import java.util.Set;

/** Promise 16: rings, changes and rounds, against a search through all ways of changing places. */
public final class BackTest {
    private static final Check CHECK = new Check();

    public static void main(String[] args) {
        for (int n = 0; n <= 5; n++) {
            List<int[]> mixes = Naive.permutations(n);
            all(n, mixes.get(mixes.size() / 2));
        }
        eight();
        refusals();
        CHECK.end("BackTest");
    }

    private static LostTicket house(int n, int[] right) {
        LostTicket x = new LostTicket();
        for (int i = 0; i < n; i++) {
            x.type(0, "wma".charAt(i % 3));
            x.type(1, '0' + right[i]);
            x.type(1, "olns".charAt(i % 4));
        }
        return x;
    }

    private static void lay(LostTicket x, int[] at) {
        x.sheet(0, 1, at.length);
        for (int i = 0; i < at.length; i++) {
            x.lay(0, 1, i, at[i]);
        }
    }

    private static void all(int n, int[] right) {
        LostTicket x = house(n, right);
        Map<String, Integer> changes = distances(n, right, false);
        Map<String, Integer> rounds = distances(n, right, true);
        for (int[] at : Naive.permutations(n)) {
            lay(x, at);
            String name = Arrays.toString(at) + " to " + Arrays.toString(right) + ": ";
            CHECK.due(name + "rings", x.back(0, 0), rings(at, right));
            CHECK.due(name + "changes", x.back(0, 1), changes.get(Arrays.toString(at)));
            CHECK.due(name + "rounds", x.back(0, 2), rounds.get(Arrays.toString(at)));
        }
    }

    private static int rings(int[] at, int[] right) {
        Set<Set<Integer>> rings = new HashSet<>();
        for (int person = 0; person < at.length; person++) {
            Set<Integer> ring = new HashSet<>();
            int who = person;
            while (ring.add(who)) {
                for (int other = 0; other < at.length; other++) {
                    if (at[other] == right[who]) {
                        who = other;
                        break;
                    }
                }
            }
            if (at[person] != right[person]) {
                rings.add(ring);
            }
        }
        return rings.size();
    }

    private static Map<String, Integer> distances(int n, int[] right, boolean wholeRounds) {
        Map<String, Integer> far = new HashMap<>();
        far.put(Arrays.toString(right), 0);
        List<int[]> now = List.of(right);
        for (int steps = 1; !now.isEmpty(); steps++) {
            List<int[]> next = new ArrayList<>();
            for (int[] at : now) {
                for (int[] change : Naive.permutations(n)) {
                    if (isRound(change, wholeRounds)) {
                        int[] other = new int[n];
                        for (int i = 0; i < n; i++) {
                            other[i] = at[change[i]];
                        }
                        if (far.putIfAbsent(Arrays.toString(other), steps) == null) {
                            next.add(other);
                        }
                    }
                }
            }
            now = next;
        }
        return far;
    }

    private static boolean isRound(int[] change, boolean whole) {
        int moved = 0;
        for (int i = 0; i < change.length; i++) {
            if (change[change[i]] != i) {
                return false;
            }
            moved += change[i] == i ? 0 : 1;
        }
        return whole || moved == 2;
    }

    private static void eight() {
        LostTicket x = house(8, new int[] {0, 1, 2, 3, 4, 5, 6, 7});
        lay(x, new int[] {1, 0, 3, 2, 5, 4, 7, 6});
        CHECK.due("four pairs", x.back(0, 0), 4);
        CHECK.due("four pairs", x.back(0, 1), 4);
        CHECK.due("four pairs", x.back(0, 2), 1);
        lay(x, new int[] {1, 2, 3, 4, 5, 6, 7, 0, 99});
        CHECK.due("one ring", x.back(0, 0), 1);
        CHECK.due("one ring", x.back(0, 1), 7);
        CHECK.due("one ring", x.back(0, 2), 2);
    }

    private static void refusals() {
        LostTicket x = house(3, new int[] {2, 0, 1});
        CHECK.due("BAD ahead of NULL", x.back(0, 3), LostTicket.BAD);
        CHECK.due("BAD", x.back(0, -1), LostTicket.BAD);
        CHECK.due("BAD", x.back(-1, 0), LostTicket.BAD);
        CHECK.due("BAD", x.back(4, 0), LostTicket.BAD);
        CHECK.due("no finding yet", x.count(8), 0);
        CHECK.due("NULL", x.back(0, 0), -11);
        CHECK.due("finding", x.count(8), 1);
        int[][] none = {{0, 1}, {0, 0, 1}, {0, 1, 3}, {0, 1, -1}, {32, 1, 2}, {}};
        for (int[] at : none) {
            lay(x, at);
            CHECK.due("NOT " + Arrays.toString(at), x.back(0, 1), LostTicket.NOT);
        }
        lay(x, new int[] {0, 1, 2});
        CHECK.due("as it is", x.back(0, 1), 2);
        x = house(3, new int[] {0, 0, 1});
        lay(x, new int[] {0, 1, 2});
        CHECK.due("not all are owned", x.back(0, 0), LostTicket.NOT);
        x = TextsTest.typed("www", "0o1o");
        lay(x, new int[] {0, 1, 2});
        CHECK.due("not all are taken", x.back(0, 0), LostTicket.NOT);
        x = TextsTest.typed("ww;", "");
        lay(x, new int[] {});
        CHECK.due("no seats, nobody", x.back(0, 2), 0);
    }
}
