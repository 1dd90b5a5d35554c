/** Promises 27 to 32: each sentence that names a boundary case of logs and of times. */
public final class LogsBoundsTest {
    private static final int[] OUTSIDE = {-1, -2, Integer.MIN_VALUE, Integer.MAX_VALUE};
    private static final String TWO = "role a men 2 holds 0;";

    private final Check check = new Check();

    public static void main(String[] args) {
        LogsBoundsTest test = new LogsBoundsTest();
        test.telling();
        test.sixty();
        test.untelling();
        test.later();
        test.knownAt();
        test.when();
        test.clashes();
        test.last();
        test.agrees();
        test.agreesNot();
        test.check.close("LogsBoundsTest");
    }

    // ---- promise 27

    private void telling() {
        check.sentence("27: A LOG: its number");
        LampYard yard = Yard.with("role a men 6 holds 0;");
        for (int number = 0; number < 6; number++) {
            check.same("from 0 on", yard.log(99 - number, number), number);
            check.same("so many", yard.about(6), number + 1);
        }
        check.same("a second one of that", yard.log(99, 0), 6);

        check.sentence("27: NONE, doing nothing, if one can't be (on a DAY (0 .. 99) a MAN was LED)");
        LampYard two = Yard.with(TWO);
        check.same("day 0", two.log(0, 0), 0);
        check.same("day 99", two.log(99, 1), 1);
        String before = Yard.seen(two);
        check.same("day 100", two.log(100, 0), -1);
        check.same("day 101", two.log(101, 0), -1);
        check.same("man 2", two.log(1, 2), -1);
        check.same("man 5", two.log(1, 5), -1);
        check.same("man 6", two.log(1, 6), -1);
        for (int number : OUTSIDE) {
            check.same("day " + number, two.log(number, 0), -1);
            check.same("man " + number, two.log(1, number), -1);
        }
        check.same("nothing was done", Yard.seen(two), before);
        check.same("the next number", two.log(5, 0), 2);
        check.same("without men", new LampYard().log(0, 0), -1);
        check.same("the course stays", two.about(3), 0);
        check.same("over, but logged", over().log(0, 0), 0);
    }

    private static LampYard over() {
        LampYard yard = Yard.with("role a men 1 holds 0;rule a when 1 set 0 hold 0 say;");
        yard.lead(0);
        return yard;
    }

    private void sixty() {
        check.sentence("27: NONE, doing nothing, if there are 60");
        LampYard yard = Yard.with(TWO);
        for (int number = 0; number < 59; number++) {
            yard.log(number, 0);
        }
        check.same("the 60th", yard.log(59, 0), 59);
        String before = Yard.seen(yard);
        check.same("no 61st", yard.log(98, 0), -1);
        check.same("no 61st", yard.log(0, 1), -1);
        check.same("nothing was done", Yard.seen(yard), before);
        check.same("60", yard.about(6), 60);
        check.yes("the last can be untold", yard.untell(59));
        check.no("none behind it", yard.untell(60));
        check.same("the others are known", yard.last(0, 0), 58);
        Yard.read(yard, TWO);
        check.same("behind a plan there are none", yard.log(98, 0), 0);
    }

    // ---- promise 28

    private void untelling() {
        check.sentence("28: It is UNTOLD: true; UNTOLD at a later one or the same");
        LampYard yard = Yard.with(TWO);
        yard.log(3, 0);
        check.yes("at the same time", yard.untell(0));
        check.same("not known at all", yard.last(0, 0), -1);
        yard.log(4, 0);
        yard.later(2);
        check.yes("later", yard.untell(1));
        check.same("at 1 it was known", yard.last(0, 1), 4);
        check.same("at 2 not any more", yard.last(0, 2), -1);
        check.same("there are two still", yard.about(6), 2);

        check.sentence("28: false if it is so already");
        check.no("0 again", yard.untell(0));
        yard.later(1);
        check.no("1 again", yard.untell(1));
        check.same("untold when it was first", yard.last(0, 2), -1);

        check.sentence("28: false if there is none such");
        check.no("none", new LampYard().untell(0));
        check.no("2", yard.untell(2));
        check.no("59", yard.untell(59));
        check.no("60", yard.untell(60));
        for (int log : OUTSIDE) {
            check.no("log " + log, yard.untell(log));
        }
        yard.log(5, 1);
        check.same("one told later is told", yard.last(1, 3), 5);
        check.yes("and can be untold", yard.untell(2));
    }

    // ---- promise 29

    private void later() {
        check.sentence("29: So much later (0 .. 1000): the TIME; NONE, doing nothing, for another number");
        LampYard yard = new LampYard();
        check.same("0 at first", yard.later(0), 0);
        check.same("1", yard.later(1), 1);
        check.same("999", yard.later(999), 1000);
        check.same("1000", yard.later(1000), 2000);
        check.same("1001", yard.later(1001), -1);
        for (int by : OUTSIDE) {
            check.same("by " + by, yard.later(by), -1);
        }
        check.same("nothing was done", yard.about(7), 2000);

        check.sentence("29: or if it would be above 100,000");
        for (int i = 3; i < 100; i++) {
            yard.later(1000);
        }
        check.same("99,000", yard.about(7), 99000);
        check.same("99,001", yard.later(1), 99001);
        check.same("100,001 would be", yard.later(1000), -1);
        check.same("nothing was done", yard.about(7), 99001);
        check.same("100,000", yard.later(999), 100000);
        check.same("no later", yard.later(1), -1);
        check.same("no later", yard.later(1000), -1);
        check.same("as late", yard.later(0), 100000);
        Yard.read(yard, TWO);
        yard.log(7, 1);
        check.same("told at 100,000", yard.last(1, 100000), 7);
        check.same("not at 99,999", yard.last(1, 99999), -1);
    }

    // ---- promises 30 to 32: which logs count

    private void knownAt() {
        check.sentence("30: As known at k those count that were TOLD at k or before, not UNTOLD at k or before");
        LampYard yard = Yard.with(TWO);
        yard.later(5);
        yard.log(10, 0);
        yard.later(3);
        yard.untell(0);
        yard.later(4);
        int[][] due = {{Integer.MIN_VALUE, -1}, {-1, -1}, {0, -1}, {4, -1}, {5, 10}, {6, 10}, {7, 10}, {8, -1}, {9, -1},
            {12, -1}, {100000, -1}, {Integer.MAX_VALUE, -1}};
        for (int[] row : due) {
            check.same("as known at " + row[0], yard.last(0, row[0]), row[1]);
        }
        yard.log(11, 1);
        check.same("times that are to come know all", yard.last(1, Integer.MAX_VALUE), 11);
        check.same("the time before knows it not", yard.last(1, 11), -1);

        check.sentence("30: of a DAY that alone that was TOLD last");
        LampYard day = Yard.with("role a men 3 holds 0;");
        day.log(7, 0);
        day.log(7, 1);
        day.later(1);
        day.log(7, 2);
        check.same("at 0 the second of one time", day.last(1, 0), 7);
        check.same("at 0 not the first", day.last(0, 0), -1);
        check.same("at 1 the third", day.last(2, 1), 7);
        check.same("at 1 not the second", day.last(1, 1), -1);
        day.later(1);
        day.untell(2);
        check.same("without it the second again", day.last(1, 2), 7);
        check.same("but not at 1", day.last(1, 1), -1);
        day.later(1);
        day.untell(0);
        day.untell(1);
        for (int man = 0; man < 3; man++) {
            check.same("nobody at 3", day.last(man, 3), -1);
        }
    }

    // ---- promise 30

    private void when() {
        check.sentence("30: WHEN: the first DAY by which all have BEEN by LOGS");
        LampYard yard = Yard.with("role a men 3 holds 0;");
        yard.log(99, 2);
        yard.log(0, 1);
        yard.log(50, 0);
        check.same("the last of all days", yard.logged(0, 0), 99);
        yard.log(60, 2);
        check.same("sooner", yard.logged(0, 0), 60);
        yard.log(98, 0);
        check.same("what comes later is nothing to it", yard.logged(0, 0), 60);
        LampYard one = Yard.with("role a men 1 holds 0;");
        one.log(0, 0);
        check.same("day 0", one.logged(0, 0), 0);
        LampYard six = Yard.with("role a men 6 holds 0;");
        for (int man = 0; man < 6; man++) {
            check.same("not all", six.logged(0, 0), -1);
            six.log(10 + man, man);
        }
        check.same("six", six.logged(0, 0), 15);

        check.sentence("30: NONE if not all have BEEN (0; without MEN, too), or for another what");
        check.same("no logs", Yard.with(TWO).logged(0, 0), -1);
        LampYard two = Yard.with(TWO);
        two.log(0, 1);
        check.same("one is missing", two.logged(0, 0), -1);
        two.log(0, 0);
        check.same("one of one day alone counts", two.logged(0, 0), -1);
        two.log(1, 1);
        check.same("all", two.logged(0, 0), 1);
        check.same("nothing known", two.logged(0, -1), -1);
        check.same("without men", new LampYard().logged(0, 0), -1);
        check.same("without men", Yard.with("lamps 2;").logged(0, 5), -1);
        check.same("what 2", two.logged(2, 0), -1);
        check.same("what 3", two.logged(3, 0), -1);
        for (int what : OUTSIDE) {
            check.same("what " + what, two.logged(what, 0), -1);
            check.same("what " + what + " without men", new LampYard().logged(what, 0), -1);
        }
    }

    private void clashes() {
        check.sentence("30: CLASH: DAYS of which LOGS that count (all of these) tell of two MEN");
        LampYard yard = Yard.with("role a men 3 holds 0;");
        check.same("no logs", yard.logged(1, 0), 0);
        check.same("without men", new LampYard().logged(1, 0), 0);
        yard.log(0, 0);
        yard.log(0, 0);
        check.same("the same man twice", yard.logged(1, 0), 0);
        yard.log(0, 1);
        check.same("two, the first told twice", yard.logged(1, 0), 1);
        yard.log(0, 2);
        check.same("three are one clash", yard.logged(1, 0), 1);
        yard.log(99, 2);
        check.same("one of another day", yard.logged(1, 0), 1);
        yard.log(99, 0);
        check.same("two days", yard.logged(1, 0), 2);
        yard.later(1);
        yard.untell(4);
        check.same("untold: no clash", yard.logged(1, 1), 1);
        check.same("but it was", yard.logged(1, 0), 2);
        check.same("nothing known", yard.logged(1, -1), 0);
        yard.untell(2);
        check.same("two are left", yard.logged(1, 1), 1);
        yard.untell(3);
        check.same("one man is left", yard.logged(1, 1), 0);
    }

    // ---- promise 31

    private void last() {
        check.sentence("31: LAST of a MAN: the latest DAY by LOGS");
        LampYard yard = Yard.with(TWO);
        yard.log(99, 0);
        yard.log(0, 1);
        check.same("day 99", yard.last(0, 0), 99);
        check.same("day 0", yard.last(1, 0), 0);
        yard.log(98, 1);
        yard.log(97, 1);
        check.same("the latest day, not the latest told", yard.last(1, 0), 98);
        yard.log(99, 1);
        check.same("told of another last", yard.last(0, 0), -1);
        check.same("told of him last", yard.last(1, 0), 99);

        check.sentence("31: NONE if there is none, or no such MAN");
        check.same("none", Yard.with(TWO).last(0, 0), -1);
        check.same("none known", yard.last(1, -1), -1);
        check.same("man 2", yard.last(2, 0), -1);
        check.same("man 6", yard.last(6, 0), -1);
        for (int man : OUTSIDE) {
            check.same("man " + man, yard.last(man, 0), -1);
        }
        check.same("without men", new LampYard().last(0, 0), -1);
    }

    // ---- promise 32

    private void agrees() {
        String saying = "role a men 2 holds 0;rule a when lamps and visits set 1 hold 0 say;rule a when visits set 1 hold 0;";
        check.sentence("32: AGREES: goes without a SAY, or with one on the latest DAY that is right");
        agrees("without a say", saying, 0, 1, 0, 1, 0);
        agrees("one day", saying, 0, 1, 0);
        agrees("a right say on the latest day", saying, 0, 1, 0, 1, 0, 1);
        agrees("a right say on the latest day", saying, 0, 1, 1, 1, 0, 0);
        agrees("a wrong say on the latest day", saying, 0, 0, 0, 0, 0);
        agrees("a right say ahead of the latest day", saying, 0, 0, 0, 1, 0, 1, 0);
        agrees("a wrong say ahead of the latest day", saying, 0, 0, 0, 0, 0, 1);
        String at = "role a men 1 holds 0;rule a when 1 set 0 hold 0 say;";
        agrees("said on day 0", at, 0, 1, 0);
        agrees("said on day 0, led once more", at, 0, 0, 0, 0);

        check.sentence("32: from LAMPS at first");
        String lit = "lamps 2;role a men 2 holds 0;rule a when lamps=3 set 0 hold 0 say;";
        for (int lamps = 0; lamps < 4; lamps++) {
            agrees("from " + lamps, lit, lamps, lamps == 3 ? 0 : 1, 0);
        }
        agrees("LAMPS that are no START", "start on;" + saying, 0, 1, 0);
        LampYard led = Yard.with(saying);
        Yard.leads(led, 0, 0);
        led.log(0, 0);
        led.log(1, 1);
        String before = Yard.seen(led);
        check.same("not from where it is", led.agrees(0, 0), 1);
        check.same("nothing was done", Yard.seen(led), before);

        check.sentence("32: by LOGS of all DAYS 0, 1, .. up to the latest one (each there)");
        LampYard days = Yard.with("cycle 12;fails 11;role a men 1 holds 0;rule a when holds=31 set 0 hold 0 say;"
                + "rule a when 1 set 1 hold holds+1;");
        for (int day = 59; day >= 28; day--) {
            days.log(day - 28, 0);
            check.same("down to day " + (day - 28), days.agrees(0, 0), day == 28 ? 1 : -1);
        }
        days.log(32, 0);
        check.same("behind his say", days.agrees(0, 0), 0);
    }

    private void agrees(String what, String plan, int lamps, int due, int... men) {
        LampYard yard = Yard.with(plan);
        for (int day = 0; day < men.length; day++) {
            yard.log(day, men[day]);
        }
        check.same(what, yard.agrees(lamps, 0), due);
    }

    private void agreesNot() {
        check.sentence("32: NONE if LAMPS can't be so");
        LampYard two = Yard.with(TWO);
        two.log(0, 0);
        check.same("lamps 0", two.agrees(0, 0), 1);
        check.same("lamps 1", two.agrees(1, 0), 1);
        check.same("lamps 2", two.agrees(2, 0), -1);
        LampYard lamps = Yard.with("lamps 2;" + TWO);
        lamps.log(0, 0);
        check.same("lamps 3", lamps.agrees(3, 0), 1);
        check.same("lamps 4", lamps.agrees(4, 0), -1);
        for (int number : OUTSIDE) {
            check.same("lamps " + number, two.agrees(number, 0), -1);
            check.same("lamps " + number, lamps.agrees(number, 0), -1);
        }

        check.sentence("32: NONE if no LOG counts");
        check.same("none", Yard.with(TWO).agrees(0, 0), -1);
        check.same("without men", new LampYard().agrees(0, 0), -1);
        check.same("none known", two.agrees(0, -1), -1);
        two.later(1);
        two.untell(0);
        check.same("untold", two.agrees(0, 1), -1);
        check.same("but it was known", two.agrees(0, 0), 1);

        check.sentence("32: NONE if a DAY is not told");
        for (int gap = 0; gap < 4; gap++) {
            LampYard yard = Yard.with(TWO);
            for (int day = 0; day < 5; day++) {
                if (day != gap) {
                    yard.log(day, day % 2);
                }
            }
            check.same("not day " + gap, yard.agrees(0, 0), -1);
            yard.later(1);
            yard.log(gap, 1);
            check.same("day " + gap + " is told", yard.agrees(0, 1), 1);
            check.same("as known before", yard.agrees(0, 0), -1);
            yard.later(1);
            yard.untell(4);
            check.same("day " + gap + " is not told any more", yard.agrees(0, 2), -1);
            yard.log(gap, 0);
            yard.untell(3);
            check.same("the latest day is another one", yard.agrees(0, 2), 1);
        }
        LampYard far = Yard.with(TWO);
        far.log(99, 0);
        check.same("day 99 alone", far.agrees(0, 0), -1);
        far.log(0, 0);
        check.same("days 0 and 99", far.agrees(0, 0), -1);
    }
}
