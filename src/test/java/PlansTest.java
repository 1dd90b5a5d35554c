import java.util.ArrayList;
import java.util.List;
import java.util.Map;

/** Plans by chance, each asked about everything, beside the plain words of the document. */
public final class PlansTest {
    private static final int PLANS = Integer.getInteger("plans", 1500);

    private final Check check = new Check();
    private int spent;
    private int wrong;
    private int notEnding;
    private int saying;
    private int notBorne;

    public static void main(String[] args) {
        PlansTest test = new PlansTest();
        Plans plans = new Plans(Long.getLong("seed", 7));
        LampYard yard = new LampYard();
        for (int i = 0; i < PLANS; i++) {
            // Some plans come one behind another on one object, so that nothing of the last one stays.
            yard = i % 3 == 0 ? new LampYard() : yard;
            test.look(yard, plans.next(1 + i % 5), plans);
        }
        System.out.println(test.spent + " spent, " + test.wrong + " wrong, " + test.notEnding + " not ending, "
                + test.saying + " saying rightly, " + test.notBorne + " right but not bearing");
        test.check.yes("all kinds of plans came", test.spent > 5 && test.wrong > 50 && test.notEnding > 50
                && test.saying > 50 && test.notBorne > 10);
        test.check.close("PlansTest");
    }

    private void look(LampYard yard, String text, Plans plans) {
        int before = check.wrong();
        Oracle oracle = new Oracle(text);
        check.same("plan " + text, Yard.read(yard, text), oracle.men.size());
        check.same("units", yard.about(9), oracle.units);
        check.same("roles", yard.about(1), oracle.roles.size());
        check.same("rules", yard.about(2), oracle.rules.size());
        go(yard, oracle, plans);
        Map<List<Integer>, List<Oracle.Led>> states = oracle.states(-1);
        if (states == null) {
            lookSpent(yard);
        } else {
            lookAtStates(yard, oracle, states);
            rows(yard, oracle, states);
            odds(yard, oracle, plans);
        }
        if (check.wrong() > before) {
            System.out.println("  in: " + text);
        }
    }

    private void lookSpent(LampYard yard) {
        spent++;
        check.same("states", yard.states(0), -2);
        check.same("states", yard.states(2), -2);
        check.same("right", yard.right(), -2);
        check.same("shown", yard.shown(0), -2);
        check.same("shows", yard.shows(0), -2);
        check.same("soonest", yard.soonest(), -2);
        check.same("ends", yard.ends(), -2);
        check.same("endless", yard.endless(), -2);
        check.same("idle", yard.idle(), -2);
        check.same("most", yard.most(0), -2);
        check.same("most of nobody", yard.most(6), -1);
        check.same("bears", yard.bears(1), -2);
        check.same("bears nothing", yard.bears(3), -1);
    }

    private void lookAtStates(LampYard yard, Oracle oracle, Map<List<Integer>, List<Oracle.Led>> states) {
        long wrongs = Oracle.wrongs(states);
        check.same("states(0)", yard.states(0), states.size());
        check.same("states(1)", yard.states(1), Oracle.rights(states));
        check.same("states(2)", yard.states(2), wrongs);
        check.same("right", yard.right(), wrongs == 0 ? 1 : 0);
        check.same("idle", yard.idle(), oracle.idle(states));
        for (int man = 0; man < oracle.men.size(); man++) {
            int at = 3 + 3 * man;
            check.same("most", yard.most(man),
                    states.keySet().stream().mapToInt(state -> state.get(at)).max().orElse(-1));
        }
        if (states.size() <= 400) {
            int endless = oracle.endless(states);
            check.same("endless", yard.endless(), endless);
            check.same("ends", yard.ends(), endless == 0 ? 1 : 0);
            notEnding += endless > 0 ? 1 : 0;
        }
        for (int fault = 0; fault < 3; fault++) {
            Map<List<Integer>, List<Oracle.Led>> faulty = oracle.states(fault);
            int due = faulty == null ? -2 : Oracle.wrongs(faulty) == 0 ? 1 : 0;
            check.same("bears " + fault, yard.bears(fault), due);
            notBorne += wrongs == 0 && due == 0 ? 1 : 0;
        }
        wrong += wrongs > 0 ? 1 : 0;
        saying += Oracle.rights(states) > 0 ? 1 : 0;
    }

    /** Goes through all short rows of men, the least first, to see what is shown and how soon it ends. */
    private void rows(LampYard yard, Oracle oracle, Map<List<Integer>, List<Oracle.Led>> states) {
        int men = oracle.men.size();
        int limit = 0;
        for (long rows = men; rows <= 800 && limit < 9; rows *= men) {
            limit++;
        }
        int[] shown = null;
        int shownStart = -1;
        int soonest = -1;
        for (int days = 1; days <= limit; days++) {
            for (int lit : oracle.starts()) {
                for (int[] row : rowsOf(men, days)) {
                    int goes = oracle.goes(lit, row);
                    soonest = goes == 1 && soonest < 0 ? days : soonest;
                    if (goes == 2 && shown == null) {
                        shown = row;
                        shownStart = lit;
                    }
                }
            }
        }
        if (shown == null) {
            check.yes("shown is longer", Oracle.wrongs(states) > 0 ? yard.shown(0) > limit : yard.shown(0) == -1);
        } else {
            check.same("shown", yard.shown(0), shown.length);
            check.same("shown start", yard.shown(1), shownStart);
            for (int i = 0; i < shown.length; i++) {
                check.same("shows " + i, yard.shows(i), shown[i]);
            }
            check.same("shows no more", yard.shows(shown.length), -1);
        }
        if (soonest < 0) {
            check.yes("soonest is later", Oracle.rights(states) > 0 ? yard.soonest() > limit : yard.soonest() == -1);
        } else {
            check.same("soonest", yard.soonest(), soonest);
        }
        goShown(yard, oracle);
    }

    /** What is shown, led in earnest, does show it. */
    private void goShown(LampYard yard, Oracle oracle) {
        int length = yard.shown(0);
        if (length < 1) {
            return;
        }
        check.yes("begin as shown", yard.begin(yard.shown(1)));
        check.yes("shown from a start", oracle.starts().contains(yard.shown(1)));
        for (int i = 0; i < length; i++) {
            check.same("shown day " + i, yard.lead(yard.shows(i)), i == length - 1 ? 2 : 0);
        }
    }

    private static List<int[]> rowsOf(int men, int days) {
        List<int[]> rows = new ArrayList<>();
        int[] row = new int[days];
        int at = 0;
        while (at >= 0) {
            rows.add(row.clone());
            for (at = days - 1; at >= 0 && ++row[at] == men; at--) {
                row[at] = 0;
            }
        }
        return rows;
    }

    private void odds(LampYard yard, Oracle oracle, Plans plans) {
        for (int lit = -1; lit <= 4; lit++) {
            int days = plans.below(13);
            if (!oracle.starts().contains(lit)) {
                check.same("said from no start", yard.said(lit, days, 0, 0), -1);
                continue;
            }
            long[] said = oracle.said(lit, days);
            long rows = Math.round(Math.pow(oracle.men.size(), days));
            for (int what = 0; what < 2; what++) {
                long common = java.math.BigInteger.valueOf(rows).gcd(java.math.BigInteger.valueOf(said[what]))
                        .longValue();
                check.same("said upper", yard.said(lit, days, what, 0), said[what] / common);
                check.same("said lower", yard.said(lit, days, what, 1), rows / common);
            }
        }
    }

    /** Leads men in earnest, with faults put in between and images gone back to. */
    private void go(LampYard yard, Oracle oracle, Plans plans) {
        int men = oracle.men.size();
        List<Integer> state = oracle.first(0);
        int[] burdens = new int[men];
        int day = 0;
        boolean over = false;
        List<Integer> keptState = null;
        int[] keptBurdens = null;
        int keptDay = 0;
        boolean keptOver = false;
        for (int i = 0; i < 25; i++) {
            int man = plans.below(men);
            switch (plans.below(12)) {
                case 0 -> {
                    check.same("forget", yard.forget(man) ? 1 : 0, over ? 0 : 1);
                    if (!over) {
                        state = new ArrayList<>(state);
                        state.set(3 + 3 * man, oracle.holds.get(oracle.men.get(man)));
                        state.set(4 + 3 * man, 0);
                    }
                }
                case 1 -> {
                    int lit = plans.below(5) - 1;
                    boolean can = lit >= 0 && lit <= oracle.allLamps();
                    check.same("dark", yard.dark(lit), over || !can ? -1 : state.get(0));
                    if (!over && can) {
                        state = new ArrayList<>(state);
                        state.set(0, lit);
                    }
                }
                case 2 -> {
                    check.same("image", yard.image(1), day);
                    keptState = state;
                    keptBurdens = burdens.clone();
                    keptDay = day;
                    keptOver = over;
                }
                case 3 -> {
                    check.same("back", yard.back(1), keptState == null ? -1 : keptDay);
                    if (keptState != null) {
                        state = keptState;
                        burdens = keptBurdens.clone();
                        day = keptDay;
                        over = keptOver;
                    }
                }
                default -> {
                    Oracle.Led led = oracle.lead(state, man);
                    check.same("lead", yard.lead(man), over ? -1 : !led.says ? 0 : led.right ? 1 : 2);
                    if (!over) {
                        state = led.state;
                        day++;
                        burdens[man] += led.lampsChanged ? 1 : 0;
                        over = led.says;
                    }
                }
            }
            compare(yard, state, man, burdens, day);
            check.same("over", yard.about(5), over ? 1 : 0);
            if (over && plans.below(3) == 0) {
                int lit = plans.below(oracle.allLamps() + 1);
                check.yes("begin", yard.begin(lit));
                state = oracle.first(lit);
                burdens = new int[men];
                day = 0;
                over = false;
            }
        }
    }

    private void compare(LampYard yard, List<Integer> state, int man, int[] burdens, int day) {
        check.same("lamps", yard.about(4), state.get(0));
        check.same("day", yard.about(3), day);
        check.same("holds", yard.man(man, 1), state.get(3 + 3 * man));
        check.same("visits", yard.man(man, 2), state.get(4 + 3 * man));
        check.same("been", yard.man(man, 3), state.get(5 + 3 * man));
        check.same("burden", yard.man(man, 4), burdens[man]);
        int least = Integer.MAX_VALUE;
        int most = 0;
        for (int burden : burdens) {
            least = Math.min(least, burden);
            most = Math.max(most, burden);
        }
        check.same("fair", yard.fair(), most - least);
    }
}
