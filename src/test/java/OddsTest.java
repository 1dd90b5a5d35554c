import java.math.BigInteger;
import java.util.ArrayDeque;
import java.util.ArrayList;
import java.util.HashSet;
import java.util.List;
import java.util.Set;

/** Promises 22 to 25, for every argument that can be: odds, guesses, means and counters. */
public final class OddsTest {
    private final Check check = new Check();
    private final LampYard yard = new LampYard();

    public static void main(String[] args) {
        OddsTest test = new OddsTest();
        test.allOdds();
        test.guesses();
        test.means();
        test.counters();
        test.countersAsPlans();
        test.check.close("OddsTest");
    }

    /** How many of the rows of so many men have exactly so many of them. */
    private static long[] rowsByMen(int n, int days) {
        long[] rows = new long[n + 1];
        rows[0] = 1;
        for (int day = 0; day < days; day++) {
            for (int been = n; been >= 0; been--) {
                rows[been] = rows[been] * been + (been > 0 ? rows[been - 1] * (n - been + 1) : 0);
            }
        }
        return rows;
    }

    private static BigInteger power(int n, int days) {
        return BigInteger.valueOf(n).pow(days);
    }

    private void allOdds() {
        for (int n = 0; n <= 7; n++) {
            for (int days = -1; days <= 21; days++) {
                boolean can = n >= 1 && n <= 6 && days >= 0 && days <= 20;
                BigInteger upper = BigInteger.valueOf(can ? rowsByMen(n, days)[n] : 0);
                BigInteger lower = can ? power(n, days) : BigInteger.ONE;
                BigInteger common = upper.gcd(lower);
                String call = "all(" + n + ", " + days + ")";
                check.same(call, yard.all(n, days, 0), can ? upper.divide(common).longValueExact() : -1);
                check.same(call, yard.all(n, days, 1), can ? lower.divide(common).longValueExact() : -1);
                check.same(call, yard.all(n, days, 2), -1);
                check.same(call, yard.all(n, days, -1), -1);
            }
        }
        check.same("all(6, 20) upper by hand", yard.all(6, 6, 0), 5);
        check.same("all(6, 20) lower by hand", yard.all(6, 6, 1), 324);
        check.same("all of too many", yard.all(Integer.MAX_VALUE, 3, 0), -1);
        check.same("all of too few", yard.all(Integer.MIN_VALUE, 3, 0), -1);
        check.same("all by too long", yard.all(3, Integer.MAX_VALUE, 0), -1);
    }

    private void guesses() {
        for (int n = 0; n <= 7; n++) {
            for (int w = -1; w <= 1001; w++) {
                int due = -1;
                for (int days = 0; days <= 20 && due < 0 && n >= 1 && n <= 6 && w >= 0 && w <= 1000; days++) {
                    BigInteger rows = power(n, days);
                    BigInteger not = rows.subtract(BigInteger.valueOf(rowsByMen(n, days)[n]));
                    BigInteger side = not.multiply(BigInteger.valueOf(1000));
                    due = side.compareTo(rows.multiply(BigInteger.valueOf(w))) <= 0 ? days : -1;
                }
                check.same("guess(" + n + ", " + w + ")", yard.guess(n, w), due);
            }
        }
    }

    private void means() {
        long[] uppers = {-1, 1, 3, 11, 25, 137, 147, -1};
        long[] lowers = {-1, 1, 1, 2, 3, 12, 10, -1};
        for (int n = 0; n <= 7; n++) {
            check.same("mean upper " + n, yard.mean(n, 0), uppers[n]);
            check.same("mean lower " + n, yard.mean(n, 1), lowers[n]);
            check.same("mean other " + n, yard.mean(n, 2), -1);
            check.same("mean other " + n, yard.mean(n, -1), -1);
        }
    }

    private void counters() {
        for (int n = 1; n <= 5; n++) {
            for (int k = 0; k <= 4; k++) {
                for (int known = -1; known <= 2; known++) {
                    boolean can = n >= 2 && n <= 4 && k >= 1 && k <= 3 && known >= 0 && known <= 1;
                    int found = can ? 1 : -1;
                    while (can && !goThrough(n, k, known, found)[0]) {
                        found++;
                    }
                    String call = "counter(" + n + ", " + k + ", " + known + ")";
                    check.same(call, yard.counter(n, k, known, 0), found);
                    check.same(call + " sure", yard.counter(n, k, known, 1),
                            !can ? -1 : goThrough(n, k, known, found)[1] ? 1 : 0);
                    check.same(call + " other", yard.counter(n, k, known, 2), -1);
                    check.same(call + " other", yard.counter(n, k, known, -1), -1);
                }
            }
        }
    }

    /** Goes through all: whether it is right with c, and whether it ends. */
    private static boolean[] goThrough(int n, int k, int known, int c) {
        // Lamp, what the last one has, then how often each other put it on, then who has been.
        Set<List<Integer>> found = new HashSet<>();
        ArrayDeque<List<Integer>> waiting = new ArrayDeque<>();
        for (int lamp = 0; lamp <= 1 - known; lamp++) {
            List<Integer> state = new ArrayList<>(List.of(lamp, 0));
            for (int i = 1; i < 2 * n; i++) {
                state.add(0);
            }
            waiting.add(state);
        }
        boolean right = true;
        boolean ends = true;
        while (!waiting.isEmpty()) {
            List<Integer> state = waiting.remove();
            if (!found.add(state)) {
                continue;
            }
            boolean allStay = true;
            for (int man = 0; man < n; man++) {
                List<Integer> then = new ArrayList<>(state);
                then.set(1 + n + man, 1);
                boolean says = false;
                if (man == n - 1 && state.get(0) == 1) {
                    then.set(0, 0);
                    then.set(1, state.get(1) + 1);
                    says = then.get(1) == c;
                } else if (man < n - 1 && state.get(0) == 0 && state.get(2 + man) < k) {
                    then.set(0, 1);
                    then.set(2 + man, state.get(2 + man) + 1);
                }
                right &= !says || !then.subList(1 + n, 1 + 2 * n).contains(0);
                allStay &= !says && then.equals(state);
                if (!says) {
                    waiting.add(then);
                }
            }
            // What they count only grows, so a round is one state that none of them changes.
            ends &= !allStay;
        }
        return new boolean[] {right, ends};
    }

    /** The same counters told as plans, as far as their states are not too many. */
    private void countersAsPlans() {
        int told = 0;
        for (int n = 2; n <= 4; n++) {
            for (int k = 1; k <= 3; k++) {
                for (int known = 0; known <= 1; known++) {
                    for (int c = 1; c <= 9; c++) {
                        LampYard other = Yard.with("start " + (known == 1 ? "off" : "any") + ";role o men " + (n - 1)
                                + " holds 0;role c men 1 holds 0;rule o when lamps=0 and holds<" + k
                                + " set 1 hold holds+1;rule c when lamps=1 and holds=" + (c - 1)
                                + " set 0 hold holds+1 say;rule c when lamps=1 set 0 hold holds+1;");
                        int found = yard.counter(n, k, known, 0);
                        if (other.right() == -2) {
                            continue;
                        }
                        told++;
                        check.same("right with " + c, other.right(), c >= found ? 1 : 0);
                        if (c == found) {
                            check.same("sure with " + c, other.ends(), yard.counter(n, k, known, 1));
                        }
                    }
                }
            }
        }
        check.yes("counters told as plans", told > 60);
    }
}
