/** Promises 11 to 20: each sentence that names a boundary case of all states that can be. */
public final class StatesBoundsTest {
    private static final String ONE = "role a men 1 holds 0;";
    /** Six who count their days together: far more than 5,000 states. */
    private static final String VERY_MANY = "role a men 6 holds 0;rule a when 1 set 1-lamps hold holds+1;";
    /** Two who put the lamp on once, one who counts to two and says. */
    private static final String COUNTING = "role o men 2 holds 0;role c men 1 holds 0;"
            + "rule o when not lamps and holds<1 set 1 hold holds+1;"
            + "rule c when lamps and holds=1 set 0 hold holds+1 say;rule c when lamps set 0 hold holds+1;";
    private static final int[] OUTSIDE = {-1, -2, Integer.MIN_VALUE, Integer.MAX_VALUE};

    private final Check check = new Check();

    public static void main(String[] args) {
        StatesBoundsTest test = new StatesBoundsTest();
        test.allThatCanBe();
        test.spent();
        test.counts();
        test.right();
        test.shown();
        test.soonest();
        test.endless();
        test.idle();
        test.most();
        test.bears();
        test.spentWithAFault();
        test.onePlanBehindAnother();
        test.check.close("StatesBoundsTest");
    }

    private void states(String text, int due) {
        check.same("states of " + text, Yard.with(text).states(0), due);
    }

    // ---- what states there are

    private void allThatCanBe() {
        check.sentence("11: STATES: all that can be, from all STARTS in DAY 0 with nobody LED yet");
        states("", 1);
        states("start on;", 1);
        states("start any;", 2);
        states("lamps 2;start on;", 1);
        states("lamps 2;start any;", 4);
        states("lamps 2;cycle 12;start any;", 4);

        check.sentence("11: LAMPS, as the DAY ahead left them, day, what each HOLDS, knows of visits, who has BEEN");
        states(ONE, 4);
        states("role a men 2 holds 0;", 16);
        states("role a men 6 holds 0;", 4096);
        states("start any;" + ONE, 8);
        states("lamps 2;start any;" + ONE, 16);
        states("fails 0;start any;" + ONE, 5);
        states(ONE + "rule a when 1 set 0 hold holds+1;", 32);
        states("role a men 1 holds 31;rule a when 1 set 0 hold holds+1;", 4);
        states("role a men 1 holds 31;rule a when 1 set 0 hold holds-1;", 32);
        states(ONE + "rule a when 1 set 1-lamps hold 0;", 5);

        check.sentence("11: of day that of the DAY that comes");
        states("cycle 1;" + ONE, 4);
        states("cycle 2;" + ONE, 5);
        states("cycle 3;" + ONE, 6);
        states("cycle 12;" + ONE, 15);

        check.sentence("11: as long as nobody SAYS");
        states(ONE + "rule a when 1 set 0 hold 0 say;", 1);
        states(ONE + "rule a when visits set 0 hold 0 say;", 2);
        states(ONE + "rule a when visits=2 set 0 hold 0 say;", 3);
        states(ONE + "rule a when visits=3 set 0 hold 0 say;", 4);
        states("role a men 2 holds 0;rule a when visits set 0 hold 0 say;", 4);

        check.sentence("11: by any MAN LED each DAY, not by those who were led in earnest");
        LampYard yard = Yard.with(COUNTING);
        Yard.leads(yard, 0, 2, 1, 2);
        yard.dark(1);
        yard.log(0, 0);
        LampYard fresh = Yard.with(COUNTING);
        for (int what = 0; what < 3; what++) {
            check.same("states " + what, yard.states(what), fresh.states(what));
        }
        String before = Yard.seen(yard);
        check.same("all that is found", found(yard), found(fresh));
        check.same("the course stays", Yard.seen(yard), before);
        check.same("over still", yard.about(5), 1);
    }

    // ---- spent

    private void spent() {
        check.sentence("11: SPENT: there are more than 5,000 (then all of this section is)");
        LampYard full = Yard.with(bounded(4, 9, 9, 9));
        check.same("5,000 are not", full.states(0), 5000);
        check.same("right", full.right(), 1);
        check.same("shown", full.shown(0), -1);
        check.same("shows", full.shows(0), -1);
        check.same("soonest", full.soonest(), -1);
        check.same("ends", full.ends(), 0);
        check.same("endless", full.endless(), 1);
        check.same("idle", full.idle(), 0);
        check.same("most", full.most(0), 4);
        check.same("most", full.most(3), 9);
        check.same("said", full.said(0, 12, 0, 1), 1);
        allSpent(Yard.with(oneMore(4, 9, 9, 9)));
        allSpent(Yard.with(VERY_MANY));
        check.same("one less with one more", Yard.with(oneMore(4, 9, 9, 7)).states(0), 4001);

        check.sentence("11: SPENT is of the PLAN, not of the object");
        LampYard yard = Yard.with(VERY_MANY);
        allSpent(yard);
        Yard.read(yard, COUNTING);
        check.same("another", yard.right(), 1);
        check.same("another", yard.bears(1), 1);
        check.same("another", yard.soonest(), 4);
        Yard.read(yard, VERY_MANY);
        allSpent(yard);
        check.same("led all the same", yard.lead(5), 0);
    }

    private void allSpent(LampYard yard) {
        for (int what = 0; what < 3; what++) {
            check.same("states " + what, yard.states(what), -2);
        }
        check.same("right", yard.right(), -2);
        check.same("shown", yard.shown(0), -2);
        check.same("shown", yard.shown(1), -2);
        check.same("shows", yard.shows(0), -2);
        check.same("soonest", yard.soonest(), -2);
        check.same("ends", yard.ends(), -2);
        check.same("endless", yard.endless(), -2);
        check.same("idle", yard.idle(), -2);
        for (int man = 0; man < yard.about(0); man++) {
            check.same("most", yard.most(man), -2);
        }
        for (int fault = 0; fault < 3; fault++) {
            check.same("bears", yard.bears(fault), -2);
        }
        check.same("said", yard.said(0, 0, 0, 0), -2);
        check.same("said", yard.said(0, 12, 1, 1), -2);
    }

    /**
     * Four men who count up to a bound each (3 or more, so that what they know of visits adds
     * nothing): the product of all bounds, each with 1 more, is how many states there are.
     */
    private static String bounded(int a, int b, int c, int d) {
        int[] bounds = {a, b, c, d};
        StringBuilder text = new StringBuilder();
        for (int i = 0; i < 4; i++) {
            char name = (char) ('a' + i);
            text.append("role ").append(name).append(" men 1 holds 0;rule ").append(name).append(" when holds<")
                    .append(bounds[i]).append(" set lamps hold holds+1;");
        }
        return text.toString();
    }

    /** The same, and a start from which whoever comes says at once: one state more. */
    private static String oneMore(int a, int b, int c, int d) {
        return "start any;" + bounded(a, b, c, d).replaceAll("rule (.)", "rule $1 when lamps set 0 hold 0 say;rule $1");
    }

    // ---- promise 11

    private void counts() {
        check.sentence("11: how many leads from them in which one SAYS rightly (1), wrongly (2)");
        LampYard none = Yard.with(ONE);
        check.same("nobody", none.states(1) + none.states(2), 0);
        LampYard one = Yard.with(ONE + "rule a when 1 set 0 hold 0 say;");
        check.same("rightly", one.states(1), 1);
        check.same("wrongly", one.states(2), 0);
        LampYard six = Yard.with("role a men 6 holds 0;rule a when 1 set 0 hold 0 say;");
        check.same("rightly", six.states(1), 0);
        check.same("wrongly: each of six", six.states(2), 6);
        LampYard two = Yard.with("role a men 2 holds 0;rule a when visits set 0 hold 0 say;");
        check.same("rightly: both, where both were", two.states(1), 2);
        check.same("wrongly: he who was alone", two.states(2), 2);

        check.sentence("11: NONE for another what");
        for (int what : OUTSIDE) {
            check.same("what " + what, two.states(what), -1);
        }
        check.same("what 3", two.states(3), -1);
    }

    // ---- promise 12

    private void right() {
        check.sentence("12: RIGHT: no MAN SAYS so, LED in any of STATES, when it is not so");
        check.same("no men", new LampYard().right(), 1);
        check.same("nobody says", Yard.with("role a men 6 holds 0;").right(), 1);
        check.same("one alone", Yard.with(ONE + "rule a when 1 set 0 hold 0 say;").right(), 1);
        check.same("one of two", Yard.with("role a men 2 holds 0;rule a when 1 set 0 hold 0 say;").right(), 0);
        check.same("always rightly", Yard.with(COUNTING).right(), 1);
        check.same("from any start", Yard.with("start any;" + COUNTING).right(), 0);
        check.same("from on", Yard.with("start on;" + COUNTING).right(), 0);
        check.same("only the last of six", Yard.with("role a men 5 holds 0;role b men 1 holds 0;"
                + "rule b when 1 set 0 hold 0 say;").right(), 0);
    }

    // ---- promises 13 and 14

    private void shown() {
        check.sentence("13: SHOWN what 0: how many MEN, 1: the START");
        LampYard at = Yard.with("role a men 2 holds 0;rule a when 1 set 0 hold 0 say;");
        row(at, 0, 0);
        row(Yard.with("lamps 2;start on;role a men 2 holds 0;rule a when 1 set 0 hold 0 say;"), 3, 0);
        row(Yard.with("start any;" + COUNTING), 1, 2, 0, 2);

        check.sentence("13: NONE if it is RIGHT, or for another what");
        for (int what : new int[] {0, 1}) {
            check.same("right", Yard.with(COUNTING).shown(what), -1);
            check.same("no men", new LampYard().shown(what), -1);
        }
        check.same("what 2", at.shown(2), -1);
        check.same("what 3", at.shown(3), -1);
        for (int what : OUTSIDE) {
            check.same("what " + what, at.shown(what), -1);
        }

        check.sentence("13: the shortest row of MEN, from a START on, the last of whom SAYS so when it is not");
        // From 0 on it takes two days, from 1 on one.
        row(Yard.with("start any;role a men 3 holds 0;rule a when lamps set 1 hold 0 say;rule a when 1 set 1 hold 0;"),
                1, 0);
        // A rule of the last man shows it in one day, one of the first in two.
        row(Yard.with("role a men 1 holds 0;role b men 2 holds 0;rule a when visits set 0 hold 0 say;"
                + "rule b when 1 set 0 hold 0 say;"), 0, 1);
        row(Yard.with("role a men 2 holds 0;rule a when holds=31 set 0 hold 0 say;rule a when 1 set 0 hold holds+1;"),
                0, new int[32]);

        check.sentence("13: of like ones by the least START, then the least row, DAY by DAY");
        // Man 1 shows it from 0 on, man 0 from 1 on: the start is first.
        row(Yard.with("start any;role a men 1 holds 0;role b men 1 holds 0;role c men 1 holds 0;"
                + "rule a when lamps set 0 hold 0 say;rule b when not lamps set 0 hold 0 say;"), 0, 1);
        row(Yard.with("lamps 2;start any;role a men 2 holds 0;rule a when lamps>1 set 0 hold 0 say;"), 2, 0);
        // Behind 2 man 0 says, behind 0 man 2: of 0 2 and 2 0 the first is the least.
        row(Yard.with("lamps 2;role a men 1 holds 0;role b men 1 holds 0;role c men 1 holds 0;"
                + "rule a when lamps=2 set 0 hold 0 say;rule c when lamps=1 set 0 hold 0 say;"
                + "rule a when 1 set 1 hold 0;rule c when 1 set 2 hold 0;"), 0, 0, 2);
        row(Yard.with("role a men 3 holds 0;rule a when lamps and not visits set 1 hold 0 say;"
                + "rule a when visits=1 set 1 hold 0;"), 0, 0, 0, 1);

        // Only man 5 puts it on, then man 0 says; only man 1, then man 2.
        row(Yard.with("role a men 5 holds 0;role b men 1 holds 0;rule b when 1 set 1 hold 0;"
                + "rule a when lamps set 0 hold 0 say;"), 0, 5, 0);
        row(Yard.with("role a men 1 holds 0;role b men 1 holds 0;role c men 1 holds 0;rule b when 1 set 1 hold 0;"
                + "rule c when lamps set 0 hold 0 say;"), 0, 1, 2);

        check.sentence("14: The i-th of them (from 0 on); NONE if there is none such");
        LampYard three = Yard.with("start any;" + COUNTING);
        int[] due = {-1, 2, 0, 2, -1, -1};
        for (int i = -1; i < 5; i++) {
            check.same("shows " + i, three.shows(i), due[i + 1]);
        }
        for (int i : OUTSIDE) {
            check.same("shows " + i, three.shows(i), -1);
        }
        check.same("right", Yard.with(COUNTING).shows(0), -1);
        check.same("no men", new LampYard().shows(0), -1);
    }

    private void row(LampYard yard, int start, int... men) {
        check.same("how many", yard.shown(0), men.length);
        check.same("the start", yard.shown(1), start);
        for (int i = 0; i < men.length; i++) {
            check.same("man " + i, yard.shows(i), men[i]);
        }
        check.same("no more", yard.shows(men.length), -1);
        yard.begin(start);
        for (int i = 0; i < men.length; i++) {
            check.same("led so, day " + i, yard.lead(men[i]), i == men.length - 1 ? 2 : 0);
        }
    }

    // ---- promise 15

    private void soonest() {
        check.sentence("15: SOONEST: the fewest DAYS in which one SAYS so and it is");
        check.same("one day", Yard.with(ONE + "rule a when 1 set 0 hold 0 say;").soonest(), 1);
        check.same("each once, one twice", Yard.with(COUNTING).soonest(), 4);
        check.same("a day less, the last being a new one", Yard.with("role a men 3 holds 0;"
                + "rule a when lamps and not visits set 1 hold 0 say;rule a when visits=1 set 1 hold 0;").soonest(), 4);
        check.same("wrong words are sooner", Yard.with("role a men 2 holds 0;rule a when visits set 0 hold 0 say;")
                .soonest(), 3);
        check.same("six, each once", Yard.with("cycle 6;role a men 6 holds 0;rule a when day=5 set 0 hold 0 say;"
                + "rule a when visits set 0 hold 0 say;").soonest(), 6);
        check.same("from the better start", Yard.with("start any;" + ONE + "rule a when lamps set 0 hold 0 say;"
                + "rule a when visits=3 set 0 hold 0 say;").soonest(), 1);
        check.same("31 days of counting", Yard.with(ONE + "rule a when holds=31 set 0 hold 0 say;"
                + "rule a when 1 set 0 hold holds+1;").soonest(), 32);

        check.sentence("15: NONE if it can't be");
        check.same("no men", new LampYard().soonest(), -1);
        check.same("nobody says", Yard.with(ONE).soonest(), -1);
        check.same("always wrongly", Yard.with("role a men 2 holds 0;rule a when 1 set 0 hold 0 say;").soonest(), -1);
    }

    // ---- promises 16 and 17

    private void endless() {
        check.sentence("16: ENDS: there is no ENDLESS round of STATES");
        round("", 0);
        round("start any;", 0);
        round(COUNTING, 0);
        round(ONE + "rule a when visits=3 set 0 hold 0 say;", 0);
        round(ONE, 1);

        check.sentence("17: one behind the other, back to where it began");
        round("cycle 12;" + ONE, 12);
        round("role a men 6 holds 0;", 1);
        round("cycle 3;" + ONE + "rule a when 1 set 1-lamps hold 0;", 6);
        round("start any;" + ONE, 2);
        round("lamps 2;start any;" + ONE, 4);
        round(ONE + "rule a when 1 set 0 hold holds+1;", 1);
        // It goes back to 0 from 31: all of these, but for those in which he does not know yet.
        round(ONE + "rule a when holds=31 set 0 hold 0;rule a when 1 set 0 hold holds+1;", 32);

        check.sentence("17: in which nobody SAYS");
        round(ONE + "rule a when visits set 0 hold 0 say;", 0);
        round("role a men 2 holds 0;rule a when visits=3 set 0 hold 0 say;", 0);

        check.sentence("17: and each MAN is LED at least once");
        String two = "role a men 1 holds 0;role b men 1 holds 0;";
        round(two + "rule b when 1 set 0 hold 0 say;", 0);
        round(two + "rule a when 1 set 0 hold 0 say;", 0);
        // The second one counts for ever, to 31; only there is there a round with both.
        round(two + "rule b when holds<31 set 0 hold holds+1;", 1);
        // He says only if the lamp is on, and nobody puts it on.
        round(two + "rule b when lamps set 0 hold 0 say;", 1);
        // Man 0 puts it on, man 1 off; one round passes a state twice if all three are led.
        round("role a men 1 holds 0;role b men 1 holds 0;role c men 1 holds 0;rule a when 1 set 1 hold 0;"
                + "rule b when 1 set 0 hold 0;", 2);
        round("lamps 2;role a men 1 holds 0;role b men 1 holds 0;rule a when lamps=0 set 1 hold 0;"
                + "rule a when lamps=1 set 0 hold 0;rule b when lamps=0 set 2 hold 0;rule b when lamps=2 set 0 hold 0;"
                + "rule a when 1 set lamps hold 0 say;rule b when 1 set lamps hold 0 say;", 3);
    }

    private void round(String text, int due) {
        LampYard yard = Yard.with(text);
        check.same("endless of " + text, yard.endless(), due);
        check.same("ends of " + text, yard.ends(), due == 0 ? 1 : 0);
    }

    // ---- promise 18

    private void idle() {
        check.sentence("18: IDLE: MEN who are LED in none of STATES so that LAMPS (as they see them), "
                + "or what they HOLD, become other ones (as bits)");
        check.same("no men", new LampYard().idle(), 0);
        for (int men = 1; men <= 6; men++) {
            check.same("all of " + men, Yard.with("role a men " + men + " holds 0;").idle(), (1 << men) - 1);
        }
        for (int busy = 1; busy < 5; busy++) {
            String text = "role a men " + busy + " holds 0;role b men 1 holds 0;role c men " + (5 - busy)
                    + " holds 0;rule b when not visits set ";
            check.same("but the one of lamps", Yard.with(text + "1 hold 0;").idle(), 63 - (1 << busy));
            check.same("but the one who holds", Yard.with(text + "0 hold 1;").idle(), 63 - (1 << busy));
            check.same("as they were", Yard.with(text + "lamps hold holds;").idle(), 63);
        }
        check.same("the lamps failed, he did nothing", Yard.with("fails 0;start on;" + ONE + "rule a when 1 set 0 hold 0;")
                .idle(), 1);
        check.same("he put it on again", Yard.with("fails 0;start on;" + ONE + "rule a when 1 set 1 hold 0;").idle(), 0);
        check.same("what is beyond 31 stays 31", Yard.with("role a men 1 holds 31;rule a when 1 set 0 hold 32;")
                .idle(), 1);
        check.same("what is below 0 stays 0", Yard.with(ONE + "rule a when 1 set 2 hold 0-1;").idle(), 1);
        check.same("never so", Yard.with(ONE + "rule a when lamps set 0 hold 5;").idle(), 1);
    }

    // ---- promise 19

    private void most() {
        check.sentence("19: MOST of a MAN: the most that he HOLDS in any of STATES");
        check.same("at first", Yard.with("role a men 1 holds 31;rule a when 1 set 0 hold 0;").most(0), 31);
        check.same("none", Yard.with(ONE).most(0), 0);
        check.same("at the top", Yard.with(ONE + "rule a when 1 set 0 hold holds+1;").most(0), 31);
        check.same("in the last of days", Yard.with(ONE + "rule a when visits=2 set 0 hold 9;"
                + "rule a when visits=3 set 0 hold 3;").most(0), 9);
        check.same("not as he says", Yard.with(ONE + "rule a when 1 set 0 hold 9 say;").most(0), 0);
        LampYard six = Yard.with("role a men 2 holds 3;role b men 1 holds 5;role c men 1 holds 0;"
                + "rule a when not visits set 0 hold 7;rule c when not visits set 0 hold 2;");
        int[] due = {7, 7, 5, 2};
        for (int man = 0; man < 4; man++) {
            check.same("man " + man, six.most(man), due[man]);
        }

        check.sentence("19: NONE if there is no such MAN");
        for (int man : new int[] {4, 5, 6, 7}) {
            check.same("man " + man, six.most(man), -1);
        }
        for (int man : OUTSIDE) {
            check.same("man " + man, six.most(man), -1);
        }
        check.same("no men", new LampYard().most(0), -1);
    }

    // ---- promise 20

    private void bears() {
        check.sentence("20: BEARS a fault: it is RIGHT, too, if at most once, ahead of some DAY");
        bears("no men", "", "111");
        bears("nobody says", "role a men 3 holds 0;", "111");
        bears("wrong without one", "role a men 2 holds 0;rule a when 1 set 0 hold 0 say;", "000");
        bears("one alone", ONE + "rule a when visits=2 set 0 hold 0 say;", "111");
        bears("ahead of DAY 0", "role a men 2 holds 0;cycle 2;rule a when not day and lamps set 0 hold 0 say;"
                + "rule a when 1 set 0 hold 0;", "110");
        // Wrong words only if the lamp changes twice, ahead of two days.
        bears("not twice", "role a men 2 holds 0;rule a when lamps and holds set 0 hold 0 say;"
                + "rule a when lamps set 0 hold 1;", "111");
        // Wrong from the first day on, but never once the lamp has changed.
        bears("not at all is at most once", "role a men 1 holds 0;role b men 1 holds 0;"
                + "rule a when not visits and not lamps set 0 hold 0 say;", "000");
        // The lamp that changed is seen on one day, and the wrong word comes on another.
        bears("days behind it", "role a men 2 holds 0;rule a when lamps and not visits set 0 hold 1;"
                + "rule a when holds set 0 hold 0 say;", "110");
        bears("once", "role a men 2 holds 0;rule a when lamps set 0 hold 0 say;", "110");

        check.sentence("20: 0: one MAN FORGETS");
        // Who comes to an own lamp takes it for another's, if he has forgotten that he was there.
        String own = "rule a when lamps and not visits set 0 hold 0 say;rule a when 1 set 1 hold 0;";
        bears("the first", "role a men 1 holds 0;role b men 1 holds 0;" + own, "010");
        bears("the last", "role b men 1 holds 0;role a men 1 holds 0;" + own, "010");
        // Who puts it on holds 0 then; who sees it on and holds 3, as at first, says.
        bears("what he held at first", "role a men 2 holds 3;rule a when lamps and holds=3 set 0 hold 0 say;"
                + "rule a when 1 set 1 hold 0;", "010");
        bears("he has been all the same", "role a men 1 holds 0;role b men 1 holds 0;rule a when 1 set 1 hold 0;"
                + "rule b when lamps set 0 hold 0 say;", "110");

        check.sentence("20: 1: all LAMPS go off");
        String both = "lamps 2;start on;role a men 2 holds 0;";
        bears("all", both + "rule a when lamps=0 set 3 hold 0 say;", "101");
        bears("one is on still", both + "rule a when lamps=2 set 3 hold 0 say;", "110");

        check.sentence("20: 2: the first LAMP changes");
        bears("off to on", "lamps 2;role a men 2 holds 0;rule a when lamps=1 set 0 hold 0 say;", "110");
        bears("on to off", both + "rule a when lamps=2 set 0 hold 0 say;", "110");
        bears("not the second one", "lamps 2;role a men 2 holds 0;rule a when lamps>1 set 0 hold 0 say;", "111");

        check.sentence("20: NONE for another one");
        LampYard yard = Yard.with(COUNTING);
        check.same("3", yard.bears(3), -1);
        check.same("4", yard.bears(4), -1);
        for (int fault : OUTSIDE) {
            check.same("fault " + fault, yard.bears(fault), -1);
            check.same("no men, fault " + fault, new LampYard().bears(fault), -1);
        }
    }

    private void bears(String what, String text, String due) {
        LampYard yard = Yard.with(text);
        StringBuilder got = new StringBuilder();
        for (int fault = 0; fault < 3; fault++) {
            got.append(yard.bears(fault));
        }
        check.same(what, got.toString(), due);
    }

    private void spentWithAFault() {
        check.sentence("20: STATES with it are told apart by whether it was; one that it leaves as it is, too; "
                + "SPENT if these are more than 5,000");
        LampYard half = Yard.with(bounded(4, 4, 9, 9));
        check.same("2,500", half.states(0), 2500);
        check.same("all go off: each once more, 5,000", half.bears(1), 1);
        check.same("the first changes: each once more, 5,000", half.bears(2), 1);
        LampYard more = Yard.with(oneMore(4, 4, 9, 9));
        check.same("2,501", more.states(0), 2501);
        check.same("all go off: 5,001", more.bears(1), -2);
        // The start that is on makes all 2,500 with a lamp that changed, and one more: 5,002.
        check.same("the first changes", more.bears(2), -2);
        check.same("without a fault it is not spent", more.right(), 0);
        LampYard six = Yard.with("role a men 6 holds 0;");
        check.same("4,096", six.states(0), 4096);
        for (int fault = 0; fault < 3; fault++) {
            check.same("8,192", six.bears(fault), -2);
            check.same("again", six.bears(fault), -2);
        }
        check.same("without a fault it is not spent", six.right(), 1);
        // Spent is told, though it is wrong without a fault already.
        check.same("wrong and spent", Yard.with(oneMore(4, 4, 9, 9)).bears(0), -2);
    }

    // ---- what was found of one plan is nothing to the next one

    private void onePlanBehindAnother() {
        check.sentence("4: The TAPE is the PLAN: what is found is of that one alone");
        String[] plans = {"", COUNTING, "start any;" + COUNTING, "role a men 6 holds 0;", VERY_MANY, ONE,
            "lamps 2;cycle 12;fails 3;start on;role a men 1 holds 9;rule a when 1 set lamps+1 hold holds-1;",
            bounded(4, 4, 9, 9), "role a men 2 holds 31;rule a when visits set 0 hold 0 say;"};
        String[] due = new String[plans.length];
        for (int i = 0; i < plans.length; i++) {
            due[i] = found(Yard.with(plans[i]));
        }
        for (String first : plans) {
            for (int i = 0; i < plans.length; i++) {
                LampYard yard = Yard.with(first);
                found(yard);
                Yard.read(yard, plans[i]);
                check.same(plans[i] + " behind " + first, found(yard), due[i]);
                check.same("asked again", found(yard), due[i]);
            }
        }
    }

    private static String found(LampYard yard) {
        StringBuilder found = new StringBuilder();
        for (int i = 0; i < 3; i++) {
            found.append(yard.bears(i)).append(' ').append(yard.states(i)).append(' ').append(yard.shown(i)).append(' ')
                    .append(yard.shows(i)).append(' ');
        }
        for (int i = 0; i < 6; i++) {
            found.append(yard.most(i)).append(' ');
        }
        for (int start = 0; start < 4; start++) {
            for (int part = 0; part < 2; part++) {
                found.append(yard.said(start, 12, 0, part)).append('/').append(yard.said(start, 5, 1, part)).append(' ');
            }
        }
        found.append(yard.right()).append(' ').append(yard.soonest()).append(' ').append(yard.ends()).append(' ');
        return found.append(yard.endless()).append(' ').append(yard.idle()).toString();
    }
}
