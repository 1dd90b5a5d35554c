/** Promises 6 to 10, 26 and 33 to 35: each sentence that names a boundary case of men led in earnest. */
public final class CourseBoundsTest {
    private static final String ONE = "role a men 1 holds 0;";
    /** Lamps count up, each man holds one more a time; he who comes a fourth time says. */
    private static final String TURNS = "lamps 2;cycle 5;role a men 2 holds 1;role b men 1 holds 8;"
            + "rule a when visits=3 set 0 hold 0 say;rule a when 1 set lamps+1 hold holds+1;"
            + "rule b when 1 set lamps hold holds+day;";
    private static final int[] OUTSIDE = {-1, -2, Integer.MIN_VALUE, Integer.MAX_VALUE};

    private final Check check = new Check();

    public static void main(String[] args) {
        CourseBoundsTest test = new CourseBoundsTest();
        test.beginning();
        test.leading();
        test.days();
        test.rules();
        test.values();
        test.saying();
        test.forgetting();
        test.darkening();
        test.ofAMan();
        test.burdens();
        test.keeping();
        test.goingBack();
        test.about();
        test.check.close("CourseBoundsTest");
    }

    // ---- promise 6

    private void beginning() {
        check.sentence("6: DAY 0 comes, with these LAMPS, nobody LED yet: true");
        for (int lamps = 0; lamps < 4; lamps++) {
            LampYard yard = Yard.with(TURNS);
            Yard.leads(yard, 0, 1, 2, 2);
            check.yes("begin", yard.begin(lamps));
            check.same("lamps", yard.about(4), lamps);
            check.same("day", yard.about(3), 0);
            check.same("over", yard.about(5), 0);
            int[] due = {0, 1, 0, 0, 0};
            for (int what = 0; what < 5; what++) {
                check.same("man 0, " + what, yard.man(0, what), due[what]);
            }
            check.same("man 2 holds", yard.man(2, 1), 8);
            yard.lead(2);
            check.same("it is day 0 again", yard.man(2, 1), 8);
        }
        LampYard over = Yard.with(ONE + "rule a when 1 set 0 hold 0 say;");
        check.same("over", Yard.leads(over, 0, 0), "1 -1");
        check.yes("begun again", over.begin(1));
        check.same("not over any more", Yard.leads(over, 0), "1");
        check.yes("nobody there", new LampYard().begin(1));
        LampYard logged = Yard.with(TURNS);
        logged.log(7, 1);
        logged.later(5);
        logged.feed(0, 0, 0, 0, 0);
        logged.begin(2);
        check.same("logs stay", logged.last(1, 5), 7);
        check.same("the time stays", logged.about(7), 5);
        check.same("the tape stays", logged.about(8), 20);

        check.sentence("6: false, doing nothing, if LAMPS can't be so");
        for (String line : new String[] {"lamps 1;", "lamps 2;", "lamps 1;start on;", "lamps 2;start any;"}) {
            LampYard yard = Yard.with(line + "role a men 2 holds 2;rule a when 1 set 1 hold 5;");
            int most = line.startsWith("lamps 2") ? 3 : 1;
            for (int lamps = 0; lamps <= most; lamps++) {
                check.yes(line + " can be " + lamps, yard.begin(lamps));
            }
            yard.lead(1);
            String before = Yard.seen(yard);
            for (int lamps : new int[] {-1, most + 1, most + 2, 256, Integer.MIN_VALUE, Integer.MAX_VALUE}) {
                check.no(line + " can't be " + lamps, yard.begin(lamps));
            }
            check.same("nothing was done", Yard.seen(yard), before);
        }
        check.no("no second lamp without a plan", new LampYard().begin(2));
    }

    // ---- promise 7

    private void leading() {
        check.sentence("7: NONE, doing nothing, if there is none such");
        for (int men = 1; men <= 6; men++) {
            LampYard yard = Yard.with("role a men " + men + " holds 0;rule a when 1 set 1-lamps hold holds+1;");
            for (int man = 0; man < men; man++) {
                check.same("man " + man + " of " + men, yard.lead(man), 0);
            }
            String before = Yard.seen(yard);
            for (int man = men; man <= 8; man++) {
                check.same("man " + man + " of " + men, yard.lead(man), -1);
            }
            for (int man : OUTSIDE) {
                check.same("man " + man, yard.lead(man), -1);
            }
            check.same("nothing was done", Yard.seen(yard), before);
        }
        check.same("without men", new LampYard().lead(0), -1);

        check.sentence("7: NONE, doing nothing, if it is over");
        for (int wrong = 0; wrong < 2; wrong++) {
            LampYard yard = Yard.with("role a men 2 holds 0;rule a when visits set 1 hold 3 say;");
            check.same("over", Yard.leads(yard, wrong, 1, 1), wrong == 1 ? "0 2 -1" : "0 0 1");
            String before = Yard.seen(yard);
            check.same("no more", Yard.leads(yard, 0, 1), "-1 -1");
            check.same("nothing was done", Yard.seen(yard), before);
        }

        // More calls than an object is for; fewer do not come to so many days.
        check.sentence("7: NONE, doing nothing, if there were 10,000 DAYS");
        LampYard yard = Yard.with(ONE + "rule a when 1 set 1-lamps hold 0;");
        for (int day = 0; day < 9999; day++) {
            yard.lead(0);
        }
        check.same("the 10,000th", yard.lead(0), 0);
        String before = Yard.seen(yard);
        check.same("no more", yard.lead(0), -1);
        check.same("nothing was done", Yard.seen(yard), before);
        check.same("10,000", yard.about(3), 10000);
        check.same("each was his", yard.man(0, 4), 10000);
        yard.begin(0);
        check.same("begun again", yard.lead(0), 0);
    }

    private void days() {
        check.sentence("7: DAYS are 0, 1, ..; day is the DAY modulo cycle");
        for (int cycle : new int[] {1, 2, 11, 12}) {
            LampYard yard = Yard.with("cycle " + cycle + ";" + ONE + "rule a when 1 set 0 hold day+1;");
            for (int day = 0; day < 2 * cycle + 2; day++) {
                check.same("the DAY that comes", yard.about(3), day);
                yard.lead(0);
                check.same("cycle " + cycle + ", DAY " + day, yard.man(0, 1), day % cycle + 1);
            }
        }

        check.sentence("7: in a DAY whose day is fails, all LAMPS go off first");
        for (int fails = 0; fails < 4; fails++) {
            LampYard yard = Yard.with("lamps 2;cycle 3;fails " + fails + ";role a men 1 holds 0;role b men 1 holds 0;"
                    + "rule a when 1 set 3 hold 10+lamps;");
            yard.begin(3);
            for (int day = 0; day < 7; day++) {
                yard.lead(0);
                check.same("fails " + fails + ", DAY " + day, yard.man(0, 1), day % 3 == fails ? 10 : 13);
            }
            yard.begin(3);
            for (int day = 0; day < 4; day++) {
                yard.lead(1);
                check.same("without a rule they stay off from then on", yard.about(4), fails < 3 && day >= fails ? 0 : 3);
                check.same("and it was not he", yard.man(1, 4), 0);
            }
        }
    }

    private void rules() {
        check.sentence("7: of the rules of his ROLE, in order, the first whose e behind when is not 0");
        LampYard yard = Yard.with("role a men 1 holds 0;role b men 1 holds 0;rule b when 1 set 0 hold 1;"
                + "rule a when 0 set 0 hold 2;rule a when holds=0 set 0 hold 3;rule a when 1 set 0 hold 4;"
                + "rule a when 1 set 0 hold 5;");
        Yard.leads(yard, 0);
        check.same("the second of his", yard.man(0, 1), 3);
        Yard.leads(yard, 0, 0);
        check.same("the third of his", yard.man(0, 1), 4);
        for (String e : new String[] {"1", "2", "9999", "0-1", "0-9999", "128*256*256*256"}) {
            check.same(e + " is not 0", held("rule a when " + e + " set 0 hold 7;"), 7);
        }
        for (String e : new String[] {"0", "0000", "1-1", "256*256*256*256", "9999*0"}) {
            check.same(e + " is 0", held("rule a when " + e + " set 0 hold 7;"), 6);
        }

        check.sentence("7: LAMPS become its set (its lowest bits, as many as there are LAMPS)");
        String[] sets = {"0", "1", "2", "3", "4", "5", "7", "9998", "9999", "0-1", "0-2", "0-4", "128*256*256*256"};
        int[] values = {0, 1, 2, 3, 4, 5, 7, 9998, 9999, -1, -2, -4, Integer.MIN_VALUE};
        for (int lamps = 1; lamps <= 2; lamps++) {
            for (int i = 0; i < sets.length; i++) {
                LampYard set = Yard.with("lamps " + lamps + ";" + ONE + "rule a when 1 set " + sets[i] + " hold 0;");
                set.lead(0);
                check.same(lamps + " lamps, set " + sets[i], set.about(4), values[i] & (lamps == 1 ? 1 : 3));
            }
        }

        check.sentence("7: what he HOLDS its hold (0 .. 31, what is beyond that the nearest of these)");
        for (int hold = 0; hold <= 40; hold++) {
            check.same("hold " + hold, held("rule a when 1 set 0 hold " + hold + ";"), Math.min(31, hold));
            check.same("hold -" + hold, held("rule a when 1 set 0 hold 0-" + hold + ";"), 0);
        }
        check.same("far above", held("rule a when 1 set 0 hold 9999*9999;"), 31);
        check.same("far below", held("rule a when 1 set 0 hold 0-9999*9999;"), 0);
        check.same("the least int", held("rule a when 1 set 0 hold 128*256*256*256;"), 0);
        check.same("the greatest int", held("rule a when 1 set 0 hold 128*256*256*256-1;"), 31);

        check.sentence("7: both e by what was there");
        LampYard both = Yard.with("lamps 2;role a men 1 holds 1;rule a when 1 set holds+1 hold lamps+8;");
        both.begin(3);
        both.lead(0);
        check.same("lamps by what he held", both.about(4), 2);
        check.same("held by the lamps that were", both.man(0, 1), 11);

        check.sentence("7: without such a rule nothing changes");
        LampYard none = Yard.with("lamps 2;role a men 1 holds 6;role b men 1 holds 0;rule b when 1 set 0 hold 9 say;"
                + "rule a when lamps=1 set 0 hold 9 say;");
        none.begin(2);
        check.same("goes on", none.lead(0), 0);
        check.same("lamps", none.about(4), 2);
        check.same("holds", none.man(0, 1), 6);
        check.same("a day is over", none.about(3), 1);
        check.same("he was there", none.man(0, 3), 1);
        check.same("he knows", none.man(0, 2), 1);
    }

    /** What a man who held 6 holds behind one day with these rules. */
    private static int held(String rules) {
        LampYard yard = Yard.with("role a men 1 holds 6;" + rules);
        yard.lead(0);
        return yard.man(0, 1);
    }

    private void values() {
        check.sentence("7: ints, wrapping");
        value("128*256*256*256<0", 1);
        value("128*256*256*256-1>0", 1);
        value("0-128*256*256*256<0", 1);
        value("256*256*256*256=0", 1);
        value("9999*9999*9999*9999*9999+7", Math.max(0, Math.min(31, 9999 * 9999 * 9999 * 9999 * 9999 + 7)));
        value("9999*9999*9999<0", 9999 * 9999 * 9999 < 0 ? 1 : 0);
        value("256*256*256*256+5", 5);

        check.sentence("7: relations, and, or, not are 1 or 0, of what is not 0");
        int[] signs = {-5, -1, 0, 1, 2};
        for (int a : signs) {
            for (int b : signs) {
                String left = a < 0 ? "(0-" + -a + ")" : "" + a;
                String right = b < 0 ? "(0-" + -b + ")" : "" + b;
                value("(" + left + "<" + right + ")+3", (a < b ? 1 : 0) + 3);
                value("(" + left + ">" + right + ")+3", (a > b ? 1 : 0) + 3);
                value("(" + left + "=" + right + ")+3", (a == b ? 1 : 0) + 3);
                value("(" + left + " and " + right + ")+3", (a != 0 && b != 0 ? 1 : 0) + 3);
                value("(" + left + " or " + right + ")+3", (a != 0 || b != 0 ? 1 : 0) + 3);
            }
            value("(not " + (a < 0 ? "(0-" + -a + ")" : "" + a) + ")+3", (a == 0 ? 1 : 0) + 3);
        }
        value("not 2=3", 1);
        value("not 0 or 1", 1);
        value("not 1 and 0", 0);
        value("1 or 0 and 0", 1);
        value("20-5-4", 11);
        value("2+3*4", 14);
        value("7-2*3", 1);

        check.sentence("7: visits: how often he was LED ahead, as far as he knows, 3 at most");
        LampYard yard = Yard.with("role a men 2 holds 0;rule a when 1 set 0 hold visits+20;");
        for (int times = 0; times < 7; times++) {
            check.same("ahead of time " + times, yard.man(1, 2), Math.min(3, times));
            yard.lead(1);
            yard.lead(0);
            check.same("he saw", yard.man(1, 1), 20 + Math.min(3, times));
        }

        check.sentence("7: men: how many MEN there are");
        for (int men = 1; men <= 6; men++) {
            String text = men == 1 ? ONE : "role b men " + (men - 1) + " holds 0;" + ONE;
            LampYard all = Yard.with(text + "rule a when 1 set 0 hold men;");
            all.lead(men - 1);
            check.same("of all roles", all.man(men - 1, 1), men);
        }
    }

    private void value(String e, int due) {
        check.same("hold " + e, held("rule a when 1 set 0 hold " + e + ";"), due);
    }

    private void saying() {
        check.sentence("7: 0; 1: he SAYS and it is so; 2: he SAYS and it is not (LED once at least, he himself, too)");
        check.same("one alone", Yard.with(ONE + "rule a when 1 set 0 hold 0 say;").lead(0), 1);
        for (int men = 2; men <= 6; men++) {
            for (int missing = 0; missing < men; missing++) {
                LampYard yard = Yard.with("role a men " + men + " holds 0;rule a when visits=1 set 0 hold 0 say;");
                for (int man = 0; man < men; man++) {
                    check.same("not yet", man == missing ? 0 : yard.lead(man), 0);
                }
                check.same("one was not", yard.lead(missing == 0 ? 1 : 0), 2);
            }
            LampYard yard = Yard.with("role a men " + men + " holds 0;rule a when lamps set 0 hold 0 say;");
            for (int man = 0; man < men - 1; man++) {
                yard.lead(man);
            }
            yard.dark(1);
            check.same("he himself was the last", yard.lead(men - 1), 1);
        }

        check.sentence("7: it is over then");
        LampYard yard = Yard.with("lamps 2;role a men 2 holds 0;rule a when visits set 3 hold 5 say;");
        Yard.leads(yard, 0, 0);
        check.same("over", yard.about(5), 1);
        check.same("the lamps are set", yard.about(4), 3);
        check.same("he holds", yard.man(0, 1), 5);
        check.same("the day is over", yard.about(3), 2);
        check.same("he changed them", yard.man(0, 4), 1);
    }

    // ---- promise 8

    private void forgetting() {
        check.sentence("8: One who FORGETS holds what he held at first, and knows of no visits "
                + "(he has BEEN there all the same)");
        LampYard yard = Yard.with("role a men 1 holds 31;role b men 2 holds 2;rule a when 1 set 1 hold 0;"
                + "rule b when 1 set 0 hold holds+1;");
        Yard.leads(yard, 0, 1, 2, 2, 2, 2);
        for (int man = 0; man < 3; man++) {
            check.yes("forgets", yard.forget(man));
            check.same("holds", yard.man(man, 1), man == 0 ? 31 : 2);
            check.same("knows", yard.man(man, 2), 0);
            check.same("was there", yard.man(man, 3), 1);
        }
        check.same("his burden stays", yard.man(0, 4), 1);
        check.same("the day stays", yard.about(3), 6);
        yard.begin(0);
        check.yes("one who was not there", yard.forget(0));
        check.same("was not there", yard.man(0, 3), 0);
        LampYard others = Yard.with(TURNS);
        Yard.leads(others, 0, 1, 2);
        others.forget(1);
        check.same("others know", others.man(0, 2) * 10 + others.man(2, 2), 11);
        check.same("others hold", others.man(0, 1) * 100 + others.man(2, 1), 210);

        check.sentence("8: false, doing nothing, if there is none such, or it is over");
        String before = Yard.seen(others);
        for (int man : new int[] {3, 4, 5, 6, 7}) {
            check.no("man " + man, others.forget(man));
        }
        for (int man : OUTSIDE) {
            check.no("man " + man, others.forget(man));
        }
        check.same("nothing was done", Yard.seen(others), before);
        check.no("without men", new LampYard().forget(0));
        Yard.leads(others, 0, 0, 0);
        check.same("over", others.about(5), 1);
        before = Yard.seen(others);
        for (int man = 0; man < 3; man++) {
            check.no("over", others.forget(man));
        }
        check.same("nothing was done", Yard.seen(others), before);
    }

    // ---- promise 9

    private void darkening() {
        check.sentence("9: LAMPS become these: what they were");
        LampYard yard = Yard.with(TURNS);
        for (int was = 0; was < 4; was++) {
            for (int will = 0; will < 4; will++) {
                yard.begin(was);
                check.same("from " + was + " to " + will, yard.dark(will), was);
                check.same("they are", yard.about(4), will);
                check.same("no day", yard.about(3), 0);
                check.same("nobody's burden", yard.fair(), 0);
            }
        }
        check.same("nobody there", new LampYard().dark(1), 0);

        check.sentence("9: NONE, doing nothing, if they can't be so, or it is over");
        String before = Yard.seen(yard);
        for (int lamps : new int[] {-1, 4, 5, 7, 256, Integer.MIN_VALUE, Integer.MAX_VALUE}) {
            check.same("dark " + lamps, yard.dark(lamps), -1);
        }
        check.same("nothing was done", Yard.seen(yard), before);
        LampYard one = Yard.with(ONE);
        check.same("one can be on", one.dark(1), 0);
        check.same("there is no second one", one.dark(2), -1);
        check.same("there is no second one", one.dark(3), -1);
        check.same("on still", one.about(4), 1);
        check.same("none without a plan", new LampYard().dark(2), -1);
        Yard.leads(yard, 0, 0, 0, 0);
        check.same("over", yard.about(5), 1);
        before = Yard.seen(yard);
        for (int lamps = 0; lamps < 4; lamps++) {
            check.same("over", yard.dark(lamps), -1);
        }
        check.same("nothing was done", Yard.seen(yard), before);
    }

    // ---- promise 10

    private void ofAMan() {
        check.sentence("10: NONE if there is none such, or for another what");
        LampYard yard = Yard.with(TURNS);
        Yard.leads(yard, 0, 2);
        int[][] due = {{0, 2, 1, 1, 1}, {0, 1, 0, 0, 0}, {1, 9, 1, 1, 0}};
        for (int what = 0; what < 5; what++) {
            for (int man = 0; man < 3; man++) {
                check.same("man " + man + ", " + what, yard.man(man, what), due[man][what]);
            }
            check.same("man 3", yard.man(3, what), -1);
            check.same("man 6", yard.man(6, what), -1);
            check.same("without men", new LampYard().man(0, what), -1);
            for (int man : OUTSIDE) {
                check.same("man " + man, yard.man(man, what), -1);
            }
        }
        for (int man = 0; man < 3; man++) {
            check.same("what 5", yard.man(man, 5), -1);
            check.same("what 6", yard.man(man, 6), -1);
            for (int what : OUTSIDE) {
                check.same("what " + what, yard.man(man, what), -1);
            }
        }
    }

    // ---- promise 26

    private void burdens() {
        check.sentence("26: BURDEN: how often he changed LAMPS (as he sees them) since the latest begin()");
        LampYard yard = Yard.with("lamps 2;cycle 2;fails 1;role a men 1 holds 0;rule a when 1 set 2 hold 0;");
        Yard.leads(yard, 0, 0, 0);
        check.same("on day 0 he did, on day 1 he saw them off, then he left them", yard.man(0, 4), 2);
        yard.dark(0);
        check.same("others' changes are not his", yard.man(0, 4), 2);
        yard.begin(2);
        check.same("begun again", yard.man(0, 4), 0);
        yard.lead(0);
        check.same("as they were", yard.man(0, 4), 0);

        check.sentence("26: the most less the least of all MEN's");
        for (int busy = 0; busy < 6; busy++) {
            LampYard six = Yard.with("role a men 6 holds 0;rule a when 1 set 1-lamps hold 0;");
            check.same("at first", six.fair(), 0);
            Yard.leads(six, busy, busy, busy);
            check.same("three to none", six.fair(), 3);
            for (int man = 0; man < 6; man++) {
                six.lead(man);
            }
            check.same("four to one", six.fair(), 3);
            for (int man = 0; man < 6; man++) {
                Yard.leads(six, man == busy ? new int[0] : new int[] {man, man, man, man});
            }
            check.same("four to five", six.fair(), 1);
        }
        check.same("one alone", alone().fair(), 0);

        check.sentence("26: NONE without MEN");
        check.same("a new one", new LampYard().fair(), -1);
        check.same("no roles", Yard.with("lamps 2;").fair(), -1);
        LampYard gone = alone();
        Yard.read(gone, "");
        check.same("not any more", gone.fair(), -1);
    }

    private static LampYard alone() {
        LampYard yard = Yard.with(ONE + "rule a when 1 set 1-lamps hold 0;");
        Yard.leads(yard, 0, 0, 0);
        return yard;
    }

    // ---- promises 33 and 34

    private void keeping() {
        check.sentence("33: is kept in a BOX 0 .. 2: the DAY");
        LampYard yard = Yard.with(TURNS);
        String[] kept = new String[3];
        for (int box = 0; box < 3; box++) {
            kept[box] = Yard.seen(yard);
            check.same("the day", yard.image(box), 2 * box);
            check.same("it goes on from there", Yard.seen(yard), kept[box]);
            Yard.leads(yard, box, 2);
        }
        for (int box : new int[] {1, 0, 2, 0, 1}) {
            check.same("the day", yard.back(box), 2 * box);
            check.same("box " + box, Yard.seen(yard), kept[box]);
        }
        yard.begin(3);
        check.same("anew", yard.image(1), 0);
        yard.lead(1);
        check.same("what was kept last", yard.back(1), 0);
        check.same("what was kept last", yard.about(4), 3);
        LampYard empty = new LampYard();
        empty.begin(1);
        check.same("without men, too", empty.image(2), 0);
        empty.begin(0);
        check.same("without men, too", empty.back(2), 0);
        check.same("without men, too", empty.about(4), 1);

        check.sentence("33: NONE if there is none such");
        LampYard other = Yard.with(TURNS);
        Yard.leads(other, 0, 1, 2);
        String before = Yard.seen(other);
        for (int box : new int[] {3, 4, -1, -2, Integer.MIN_VALUE, Integer.MAX_VALUE}) {
            check.same("box " + box, other.image(box), -1);
            check.same("box " + box, other.back(box), -1);
        }
        check.same("nothing was done", Yard.seen(other), before);
        for (int box = 0; box < 3; box++) {
            check.same("nothing was kept", other.back(box), -1);
        }
    }

    private void goingBack() {
        check.sentence("34: All is as it was kept (LAMPS, DAY, what MEN hold, know, whether BEEN, BURDENS, "
                + "whether it is over)");
        LampYard yard = Yard.with(TURNS);
        Yard.leads(yard, 0, 1, 0, 0);
        yard.image(0);
        String running = Yard.seen(yard);
        check.same("one says", Yard.leads(yard, 2, 0), "0 1");
        yard.image(2);
        String over = Yard.seen(yard);
        for (int round = 0; round < 2; round++) {
            check.same("back", yard.back(0), 4);
            check.same("running", Yard.seen(yard), running);
            check.same("goes on as it did", Yard.leads(yard, 2, 0), "0 1");
            check.same("to the same", Yard.seen(yard), over);
            yard.begin(1);
            check.same("back", yard.back(2), 6);
            check.same("over", Yard.seen(yard), over);
            check.same("over", Yard.leads(yard, 0, 1, 2), "-1 -1 -1");
        }
        yard.back(0);
        yard.forget(0);
        yard.dark(0);
        yard.back(0);
        check.same("what was forgotten is known", Yard.seen(yard), running);
        yard.log(3, 1);
        yard.later(7);
        yard.feed(0, 0, 0, 0, 0);
        yard.back(0);
        check.same("logs stay", yard.about(6), 1);
        check.same("the time stays", yard.about(7), 7);
        check.same("the tape stays", yard.about(8), 20);

        check.sentence("34: NONE, doing nothing, if nothing was");
        LampYard other = Yard.with(TURNS);
        other.image(1);
        Yard.leads(other, 0, 1);
        String before = Yard.seen(other);
        check.same("box 0", other.back(0), -1);
        check.same("box 2", other.back(2), -1);
        check.same("nothing was done", Yard.seen(other), before);
        check.same("box 1", other.back(1), 0);
        Yard.read(other, TURNS);
        other.lead(1);
        check.same("behind a plan", other.back(1), -1);
        check.same("nothing was done", other.about(3), 1);
    }

    // ---- promise 35

    private void about() {
        check.sentence("35: What 0: MEN, 1: ROLES, 2: rules, 3: the DAY, 4: LAMPS, 5: 1 if it is over, else 0, "
                + "6: LOGS, 7: the TIME, 8: bytes on the TAPE, 9: units");
        LampYard yard = Yard.with(TURNS);
        Yard.leads(yard, 0, 0, 0);
        yard.log(0, 0);
        yard.log(0, 1);
        yard.untell(0);
        yard.later(1000);
        yard.feed(0, 0, 0, 0, 0);
        yard.end(19);
        int[] due = {3, 2, 3, 3, 3, 0, 2, 1000, 19, 13};
        for (int what = 0; what < 10; what++) {
            check.same("about " + what, yard.about(what), due[what]);
        }
        yard.lead(0);
        check.same("over", yard.about(5), 1);

        check.sentence("35: NONE for another what");
        check.same("10", yard.about(10), -1);
        check.same("11", yard.about(11), -1);
        for (int what : OUTSIDE) {
            check.same("about " + what, yard.about(what), -1);
        }
    }
}
