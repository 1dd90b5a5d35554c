import java.util.ArrayList;
import java.util.HashSet;
import java.util.List;
import java.util.Set;
import java.util.TreeMap;

/** Promises 27 to 32 by chance: logs told, untold, and asked about as known at many times. */
public final class LogsTest {
    private final Check check = new Check();
    private final Plans plans = new Plans(23);
    private int agreed;
    private int disagreed;
    private int gaps;

    public static void main(String[] args) {
        LogsTest test = new LogsTest();
        for (int i = 0; i < 4000; i++) {
            test.look(test.plans.next(1 + i % 6));
        }
        System.out.println(test.agreed + " agree, " + test.disagreed + " do not, " + test.gaps + " gaps");
        test.check.yes("all kinds came", test.agreed > 500 && test.disagreed > 500 && test.gaps > 500);
        test.check.close("LogsTest");
    }

    private void look(String text) {
        int before = check.wrong();
        LampYard yard = Yard.with(text);
        Oracle oracle = new Oracle(text);
        List<Oracle.Log> logs = new ArrayList<>();
        int time = 0;
        int days = 1 + plans.below(8);
        for (int i = 0; i < 30; i++) {
            switch (plans.below(6)) {
                case 0 -> {
                    int by = plans.below(4);
                    time += by;
                    check.same("later", yard.later(by), time);
                }
                case 1 -> untell(yard, logs, plans.below(logs.size() + 2) - 1, time);
                default -> tell(yard, oracle, logs, plans.below(days), time);
            }
            ask(yard, oracle, logs, plans.below(time + 3) - 1);
        }
        if (check.wrong() > before) {
            System.out.println("  in: " + text);
        }
    }

    private void tell(LampYard yard, Oracle oracle, List<Oracle.Log> logs, int day, int time) {
        int man = plans.below(oracle.men.size());
        check.same("log", yard.log(day, man), logs.size());
        Oracle.Log log = new Oracle.Log();
        log.day = day;
        log.man = man;
        log.told = time;
        logs.add(log);
        check.same("logs", yard.about(6), logs.size());
    }

    private void untell(LampYard yard, List<Oracle.Log> logs, int number, int time) {
        boolean can = number >= 0 && number < logs.size() && !logs.get(number).isUntold;
        check.same("untell", yard.untell(number) ? 1 : 0, can ? 1 : 0);
        if (can) {
            logs.get(number).isUntold = true;
            logs.get(number).untold = time;
        }
    }

    private void ask(LampYard yard, Oracle oracle, List<Oracle.Log> logs, int k) {
        TreeMap<Integer, Integer> byDay = Oracle.menByDay(logs, k);
        int when = -1;
        Set<Integer> been = new HashSet<>();
        for (int day : byDay.keySet()) {
            been.add(byDay.get(day));
            when = when < 0 && been.size() == oracle.men.size() ? day : when;
        }
        check.same("when", yard.logged(0, k), when);
        int clashes = 0;
        for (int day : byDay.keySet()) {
            long men = Oracle.counting(logs, k).stream().filter(log -> log.day == day).mapToInt(log -> log.man)
                    .distinct().count();
            clashes += men > 1 ? 1 : 0;
        }
        check.same("clashes", yard.logged(1, k), clashes);
        for (int man = -1; man <= oracle.men.size(); man++) {
            int last = -1;
            for (int day : byDay.keySet()) {
                last = byDay.get(day) == man ? day : last;
            }
            check.same("last", yard.last(man, k), last);
        }
        for (int lit = -1; lit <= 4; lit++) {
            check.same("agrees from " + lit, yard.agrees(lit, k), agrees(oracle, byDay, lit));
        }
    }

    private int agrees(Oracle oracle, TreeMap<Integer, Integer> byDay, int lit) {
        if (lit < 0 || lit > oracle.allLamps() || byDay.isEmpty()) {
            return -1;
        }
        if (byDay.size() != byDay.lastKey() + 1) {
            gaps++;
            return -1;
        }
        int goes = oracle.goes(lit, byDay.values().stream().mapToInt(Integer::intValue).toArray());
        agreed += goes < 2 ? 1 : 0;
        disagreed += goes < 2 ? 0 : 1;
        return goes < 2 ? 1 : 0;
    }
}
