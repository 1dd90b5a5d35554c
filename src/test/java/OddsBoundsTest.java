import java.math.BigInteger;

/** Promises 21 to 25: each sentence that names a boundary case of odds, guesses, means and counters. */
public final class OddsBoundsTest {
    private static final int[] OUTSIDE = {-1, -2, Integer.MIN_VALUE, Integer.MAX_VALUE};
    private static final String TWO = "role a men 2 holds 0;rule a when visits=1 set 0 hold 0 say;";

    private final Check check = new Check();
    private final LampYard yard = new LampYard();

    public static void main(String[] args) {
        OddsBoundsTest test = new OddsBoundsTest();
        test.said();
        test.saidNot();
        test.all();
        test.guess();
        test.mean();
        test.counter();
        test.counterNot();
        test.check.close("OddsBoundsTest");
    }

    // ---- promise 21

    private void said() {
        check.sentence("21: SAID by the end of so many DAYS (0 .. 12), from a START");
        LampYard two = Yard.with(TWO);
        fraction("0 days", two, 0, 0, "0/1", "0/1");
        fraction("1 day", two, 0, 1, "0/1", "0/1");
        fraction("2 days: the same one", two, 0, 2, "1/2", "1/2");
        fraction("3 days", two, 0, 3, "1/1", "1/2");
        fraction("12 days", two, 0, 12, "1/1", "1/2");
        for (int last = 1; last <= 12; last++) {
            // One of three counts the days that he was led, and says on his last one.
            LampYard three = Yard.with("role a men 1 holds 0;role b men 2 holds 0;rule a when holds=" + (last - 1)
                    + " set 0 hold 0 say;rule a when 1 set 0 hold holds+1;");
            BigInteger ways = BigInteger.ZERO;
            for (int times = last; times <= 12; times++) {
                ways = ways.add(choices(12, times).multiply(BigInteger.TWO.pow(12 - times)));
            }
            BigInteger rows = BigInteger.valueOf(3).pow(12);
            BigInteger common = ways.gcd(rows);
            check.same("led " + last + " times in 12 days", three.said(0, 12, 0, 0), ways.divide(common).longValue());
            check.same("led " + last + " times in 12 days", three.said(0, 12, 0, 1), rows.divide(common).longValue());
        }
        LampYard six = Yard.with("role a men 1 holds 0;role b men 5 holds 0;rule a when holds=11 set 0 hold 0 say;"
                + "rule a when 1 set 0 hold holds+1;rule b when 1 set 0 hold 0 say;");
        check.same("6 to the 12th", six.said(0, 12, 0, 1), 1);
        check.same("6 to the 12th: one said always", six.said(0, 12, 0, 0), 1);
        check.same("6 to the 12th: the 12th word is wrong, too", six.said(0, 12, 1, 0), 1);
        check.same("6 to the 11th", six.said(0, 11, 0, 1), 362797056L);
        check.same("6 to the 11th", six.said(0, 11, 0, 0), 362797055L);

        check.sentence("21: STARTS: LAMPS 0 by off; all on by on; each number that they can be by any");
        LampYard any = Yard.with("lamps 2;start any;role a men 2 holds 0;rule a when lamps=3 set 3 hold 0 say;"
                + "rule a when lamps set lamps+1 hold 0;");
        String[] due = {"0/1", "0/1", "1/1", "1/1"};
        String[] wrongly = {"0/1", "0/1", "1/2", "1/1"};
        for (int start = 0; start < 4; start++) {
            fraction("from " + start, any, start, start == 3 ? 1 : 2, due[start], wrongly[start]);
        }
        fraction("from 1, a day more", any, 1, 3, "1/1", "1/4");

        check.sentence("21: upper part (0), lower part (1), in lowest terms");
        LampYard terms = Yard.with("cycle 2;role a men 2 holds 0;role b men 2 holds 0;"
                + "rule a when day=1 set 0 hold 0 say;");
        fraction("8 of 16", terms, 0, 2, "1/2", "1/2");
        // Of 256 rows 128 end wrongly on the second day, 64 on the fourth, 8 of these rightly.
        fraction("4 days", terms, 0, 4, "3/4", "23/32");
    }

    private static BigInteger choices(int of, int some) {
        BigInteger product = BigInteger.ONE;
        for (int i = 0; i < some; i++) {
            product = product.multiply(BigInteger.valueOf(of - i)).divide(BigInteger.valueOf(i + 1));
        }
        return product;
    }

    private void fraction(String what, LampYard of, int start, int days, String said, String wrongly) {
        check.same(what + ", said", of.said(start, days, 0, 0) + "/" + of.said(start, days, 0, 1), said);
        check.same(what + ", wrongly", of.said(start, days, 1, 0) + "/" + of.said(start, days, 1, 1), wrongly);
    }

    private void saidNot() {
        check.sentence("21: NONE if one can't be (no such START, too), or there are no MEN");
        LampYard two = Yard.with(TWO);
        check.same("13 days", two.said(0, 13, 0, 0), -1);
        check.same("13 days", two.said(0, 13, 1, 1), -1);
        check.same("what 2", two.said(0, 3, 2, 0), -1);
        check.same("part 2", two.said(0, 3, 0, 2), -1);
        for (int number : OUTSIDE) {
            check.same("lamps " + number, two.said(number, 3, 0, 0), -1);
            check.same("days " + number, two.said(0, number, 0, 0), -1);
            check.same("what " + number, two.said(0, 3, number, 0), -1);
            check.same("part " + number, two.said(0, 3, 0, number), -1);
        }
        String[] lines = {"", "start on;", "start any;", "lamps 2;", "lamps 2;start on;", "lamps 2;start any;"};
        int[] starts = {1, 2, 3, 1, 8, 15};
        for (int i = 0; i < lines.length; i++) {
            LampYard from = Yard.with(lines[i] + TWO);
            for (int lamps = 0; lamps < 6; lamps++) {
                check.same(lines[i] + " from " + lamps, from.said(lamps, 2, 0, 1), (starts[i] >> lamps & 1) != 0 ? 2 : -1);
            }
            check.same(lines[i] + " no men", Yard.with(lines[i]).said(starts[i] == 8 ? 3 : starts[i] == 2 ? 1 : 0,
                    0, 0, 0), -1);
        }

        check.sentence("21: -2 if SPENT");
        LampYard many = Yard.with("role a men 6 holds 0;rule a when 1 set 1-lamps hold holds+1;");
        for (int days = 0; days <= 12; days += 4) {
            check.same("spent", many.said(0, days, 0, 0), -2);
            check.same("spent", many.said(0, days, 1, 1), -2);
        }
    }

    // ---- promise 22

    private void all() {
        check.sentence("22: ALL of n by so many DAYS (0 .. 20): odds that n MEN (1 .. 6) have all BEEN");
        for (int n = 1; n <= 6; n++) {
            check.same("0 days", yard.all(n, 0, 0), 0);
            check.same("0 days", yard.all(n, 0, 1), 1);
            check.same("a day too few", yard.all(n, n - 1, 0), 0);
            check.same("a day too few", yard.all(n, n - 1, 1), 1);
            check.yes("just enough", yard.all(n, n, 0) > 0);
        }
        String[] rows = {"1/1", "1/2", "2/9", "3/32", "24/625", "5/324"};
        for (int n = 1; n <= 6; n++) {
            check.same(n + " by " + n + " days", yard.all(n, n, 0) + "/" + yard.all(n, n, 1), rows[n - 1]);
        }
        check.same("1 by 20", yard.all(1, 20, 0) + "/" + yard.all(1, 20, 1), "1/1");
        check.same("2 by 20", yard.all(2, 20, 0) + "/" + yard.all(2, 20, 1), "524287/524288");
        // 6 to the 20th less rows without one, or two, ..: as large as it gets.
        BigInteger ways = BigInteger.ZERO;
        for (int out = 0; out <= 6; out++) {
            BigInteger without = choices(6, out).multiply(BigInteger.valueOf(6 - out).pow(20));
            ways = out % 2 == 0 ? ways.add(without) : ways.subtract(without);
        }
        BigInteger all = BigInteger.valueOf(6).pow(20);
        BigInteger common = ways.gcd(all);
        check.same("6 by 20", yard.all(6, 20, 0), ways.divide(common).longValueExact());
        check.same("6 by 20", yard.all(6, 20, 1), all.divide(common).longValueExact());

        check.sentence("22: NONE if one can't be");
        for (int part = 0; part < 2; part++) {
            check.same("n 0", yard.all(0, 3, part), -1);
            check.same("n 7", yard.all(7, 3, part), -1);
            check.same("21 days", yard.all(3, 21, part), -1);
            for (int number : OUTSIDE) {
                check.same("n " + number, yard.all(number, 3, part), -1);
                check.same("days " + number, yard.all(3, number, part), -1);
            }
        }
        check.same("part 2", yard.all(3, 3, 2), -1);
        for (int part : OUTSIDE) {
            check.same("part " + part, yard.all(3, 3, part), -1);
        }
    }

    // ---- promise 23

    private void guess() {
        check.sentence("23: GUESS of w: the least number of DAYS (0 .. 20) so that odds that not all have "
                + "are no more than w / 1000");
        check.same("1/2 is no more than 500/1000", yard.guess(2, 500), 2);
        check.same("but more than 499/1000", yard.guess(2, 499), 3);
        check.same("1/4", yard.guess(2, 250), 3);
        check.same("1/4", yard.guess(2, 249), 4);
        check.same("1/8", yard.guess(2, 125), 4);
        check.same("1/8", yard.guess(2, 124), 5);
        check.same("one man, no odds", yard.guess(1, 0), 1);
        check.same("one man, 999", yard.guess(1, 999), 1);
        check.same("7/9 of three", yard.guess(3, 778), 3);
        check.same("7/9 of three", yard.guess(3, 777), 4);
        for (int n = 1; n <= 6; n++) {
            check.same("all odds", yard.guess(n, 1000), 0);
            check.same("nearly all odds", yard.guess(n, 999), n);
        }
        // By 20 days odds are 0.15201 that not all six have been, by 19 days 0.18108.
        check.same("in 19 days", yard.guess(6, 182), 19);
        check.same("not in 19 days", yard.guess(6, 181), 20);
        check.same("in 20 days", yard.guess(6, 153), 20);

        check.sentence("23: NONE if none is enough, or one can't be");
        check.same("none of 0 .. 20", yard.guess(6, 152), -1);
        for (int n = 2; n <= 6; n++) {
            check.same("no odds at all", yard.guess(n, 0), -1);
        }
        check.same("n 0", yard.guess(0, 1000), -1);
        check.same("n 7", yard.guess(7, 1000), -1);
        check.same("w 1001", yard.guess(3, 1001), -1);
        for (int number : OUTSIDE) {
            check.same("n " + number, yard.guess(number, 1000), -1);
            check.same("w " + number, yard.guess(1, number), -1);
        }
    }

    // ---- promise 24

    private void mean() {
        check.sentence("24: MEAN: upper part (0), lower part (1), in lowest terms");
        String[] due = {"1/1", "3/1", "11/2", "25/3", "137/12", "147/10"};
        for (int n = 1; n <= 6; n++) {
            check.same("mean of " + n, yard.mean(n, 0) + "/" + yard.mean(n, 1), due[n - 1]);
        }

        check.sentence("24: NONE if one can't be");
        for (int part = 0; part < 2; part++) {
            check.same("n 0", yard.mean(0, part), -1);
            check.same("n 7", yard.mean(7, part), -1);
            for (int n : OUTSIDE) {
                check.same("n " + n, yard.mean(n, part), -1);
            }
        }
        check.same("part 2", yard.mean(3, 2), -1);
        for (int part : OUTSIDE) {
            check.same("part " + part, yard.mean(3, part), -1);
        }
    }

    // ---- promise 25

    private void counter() {
        check.sentence("25: FOUND: the least c that is RIGHT; SURE: whether it ENDS with that");
        // n, k, known: found, sure. One other man, off at first: his one lamp tells.
        int[][] due = {{2, 1, 1, 1, 1}, {2, 1, 0, 2, 0}, {2, 2, 1, 1, 1}, {2, 2, 0, 2, 1}, {2, 3, 1, 1, 1},
            {2, 3, 0, 2, 1}, {3, 1, 1, 2, 1}, {3, 1, 0, 3, 0}, {3, 2, 1, 3, 1}, {3, 2, 0, 4, 1}, {3, 3, 1, 4, 1},
            {3, 3, 0, 5, 1}, {4, 1, 1, 3, 1}, {4, 1, 0, 4, 0}, {4, 2, 1, 5, 1}, {4, 2, 0, 6, 1}, {4, 3, 1, 7, 1},
            {4, 3, 0, 8, 1}};
        for (int[] row : due) {
            String call = "counter of " + row[0] + ", " + row[1] + ", " + row[2];
            check.same(call, yard.counter(row[0], row[1], row[2], 0), row[3]);
            check.same(call + ", sure", yard.counter(row[0], row[1], row[2], 1), row[4]);
        }

        check.sentence("25: k (1 .. 3): each other one puts it on, if it is off, k times at most");
        for (int k = 1; k <= 3; k++) {
            for (int c = 1; c <= 3 + k; c++) {
                // Known, and three men: with c as a plan it is right from FOUND on.
                LampYard plan = Yard.with("role o men 2 holds 0;role c men 1 holds 0;rule o when not lamps and holds<" + k
                        + " set 1 hold holds+1;rule c when lamps and holds=" + (c - 1)
                        + " set 0 hold holds+1 say;rule c when lamps set 0 hold holds+1;");
                check.same("k " + k + ", c " + c, plan.right(), c >= yard.counter(3, k, 1, 0) ? 1 : 0);
            }
        }
    }

    private void counterNot() {
        check.sentence("25: NONE if one can't be");
        for (int what = 0; what < 2; what++) {
            check.same("n 1", yard.counter(1, 1, 1, what), -1);
            check.same("n 0", yard.counter(0, 1, 1, what), -1);
            check.same("n 5", yard.counter(5, 1, 1, what), -1);
            check.same("k 0", yard.counter(2, 0, 1, what), -1);
            check.same("k 4", yard.counter(2, 4, 1, what), -1);
            check.same("known 2", yard.counter(2, 1, 2, what), -1);
            for (int number : OUTSIDE) {
                check.same("n " + number, yard.counter(number, 1, 1, what), -1);
                check.same("k " + number, yard.counter(2, number, 1, what), -1);
                check.same("known " + number, yard.counter(2, 1, number, what), -1);
            }
        }
        check.same("what 2", yard.counter(2, 1, 1, 2), -1);
        check.same("what 3", yard.counter(2, 1, 1, 3), -1);
        for (int what : OUTSIDE) {
            check.same("what " + what, yard.counter(2, 1, 1, what), -1);
        }
    }
}
