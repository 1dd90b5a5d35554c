import java.util.ArrayDeque;
import java.util.ArrayList;
import java.util.Arrays;
import java.util.HashMap;
import java.util.LinkedHashMap;
import java.util.List;
import java.util.Map;
import java.util.TreeMap;
import java.util.regex.Matcher;
import java.util.regex.Pattern;

/**
 * The document once more, as plainly as the Java library allows and with none of the class's ways:
 * trees for plans, lists for states, rows of men gone through one by one.
 */
final class Oracle {
    static final class Fault extends RuntimeException {
        private static final long serialVersionUID = 1;
        final int kind;
        final int place;

        Fault(int kind, int place) {
            super(kind + " at " + place);
            this.kind = kind;
            this.place = place;
        }
    }

    /** What a man sees: lamps, holds, day, visits, men. */
    interface Tree {
        int value(Map<String, Integer> seen);
    }

    static final class Rule {
        int role;
        Tree when;
        Tree set;
        Tree hold;
        boolean say;
    }

    private static final List<String> WORDS = Arrays.asList("lamps", "cycle", "fails", "start", "off",
            "on", "any", "role", "men", "holds", "rule", "when", "set", "hold", "say", "or", "and", "not",
            "day", "visits");
    private static final Pattern TOKEN = Pattern.compile("[a-z]+|[0-9]+[a-z]?|[;()<>=+*-]");

    int lamps = 1;
    int cycle = 1;
    int fails = -1;
    String start = "off";
    int units;
    final List<String> roles = new ArrayList<>();
    final List<Integer> holds = new ArrayList<>();
    final List<Integer> men = new ArrayList<>();
    final List<Rule> rules = new ArrayList<>();

    private final String text;
    private int at;
    private String token;
    private int place;

    Oracle(String text) {
        this.text = text;
        next();
        List<String> told = new ArrayList<>();
        while (!token.isEmpty()) {
            if (told.contains(token) && !token.equals("role") && !token.equals("rule")) {
                throw new Fault(2, place);
            }
            told.add(token);
            line();
        }
    }

    // ---- the text

    private void next() {
        while (at < text.length() && (text.charAt(at) == ' ' || text.charAt(at) == '\n')) {
            at++;
        }
        place = at;
        if (at == text.length()) {
            token = "";
            return;
        }
        Matcher matcher = TOKEN.matcher(text);
        matcher.region(at, text.length());
        if (!matcher.lookingAt()) {
            throw new Fault(1, at);
        }
        token = matcher.group();
        boolean good = isNumber() ? token.matches("[0-9]{1,4}") : token.length() <= 8;
        if (!good) {
            throw new Fault(1, at);
        }
        at = matcher.end();
    }

    private boolean isNumber() {
        return !token.isEmpty() && Character.isDigit(token.charAt(0));
    }

    private void want(String word) {
        if (!token.equals(word)) {
            throw new Fault(2, place);
        }
        next();
    }

    private int number(int least, int most) {
        if (!isNumber()) {
            throw new Fault(2, place);
        }
        int number = Integer.parseInt(token);
        if (number < least || number > most) {
            throw new Fault(4, place);
        }
        next();
        return number;
    }

    private void nameHere() {
        if (token.isEmpty() || !Character.isLetter(token.charAt(0)) || WORDS.contains(token)) {
            throw new Fault(2, place);
        }
    }

    private void line() {
        switch (token) {
            case "lamps" -> {
                next();
                lamps = number(1, 2);
            }
            case "cycle" -> {
                next();
                cycle = number(1, 12);
            }
            case "fails" -> {
                next();
                fails = number(0, 11);
            }
            case "start" -> {
                next();
                if (!Arrays.asList("off", "on", "any").contains(token)) {
                    throw new Fault(2, place);
                }
                start = token;
                next();
            }
            case "role" -> roleLine();
            case "rule" -> ruleLine();
            default -> throw new Fault(2, place);
        }
        want(";");
    }

    private void roleLine() {
        if (roles.size() == 4) {
            throw new Fault(2, place);
        }
        next();
        nameHere();
        if (roles.contains(token)) {
            throw new Fault(3, place);
        }
        String name = token;
        next();
        want("men");
        int count = number(1, 6 - men.size());
        want("holds");
        holds.add(number(0, 31));
        for (int i = 0; i < count; i++) {
            men.add(roles.size());
        }
        roles.add(name);
    }

    private void ruleLine() {
        if (rules.size() == 16) {
            throw new Fault(2, place);
        }
        next();
        nameHere();
        Rule rule = new Rule();
        rule.role = roles.indexOf(token);
        if (rule.role < 0) {
            throw new Fault(5, place);
        }
        next();
        want("when");
        rule.when = either(0);
        want("set");
        rule.set = either(0);
        want("hold");
        rule.hold = either(0);
        if (token.equals("say")) {
            rule.say = true;
            next();
        }
        rules.add(rule);
    }

    private Tree either(int inside) {
        Tree tree = both(inside);
        while (token.equals("or")) {
            next();
            Tree left = tree;
            Tree right = both(inside);
            tree = seen -> left.value(seen) != 0 | right.value(seen) != 0 ? 1 : 0;
        }
        return tree;
    }

    private Tree both(int inside) {
        Tree tree = one(inside);
        while (token.equals("and")) {
            next();
            Tree left = tree;
            Tree right = one(inside);
            tree = seen -> left.value(seen) != 0 & right.value(seen) != 0 ? 1 : 0;
        }
        return tree;
    }

    private Tree one(int inside) {
        if (token.equals("not")) {
            if (inside == 7) {
                throw new Fault(2, place);
            }
            next();
            Tree of = one(inside + 1);
            return seen -> of.value(seen) == 0 ? 1 : 0;
        }
        Tree left = sum(inside);
        String sign = token;
        if (!Arrays.asList("<", ">", "=").contains(sign)) {
            return left;
        }
        next();
        Tree right = sum(inside);
        return seen -> {
            int a = left.value(seen);
            int b = right.value(seen);
            return (sign.equals("<") ? a < b : sign.equals(">") ? a > b : a == b) ? 1 : 0;
        };
    }

    private Tree sum(int inside) {
        Tree tree = term(inside);
        while (token.equals("+") || token.equals("-")) {
            int factor = token.equals("+") ? 1 : -1;
            next();
            Tree left = tree;
            Tree right = term(inside);
            tree = seen -> left.value(seen) + factor * right.value(seen);
        }
        return tree;
    }

    private Tree term(int inside) {
        Tree tree = unit(inside);
        while (token.equals("*")) {
            next();
            Tree left = tree;
            Tree right = unit(inside);
            tree = seen -> left.value(seen) * right.value(seen);
        }
        return tree;
    }

    private Tree unit(int inside) {
        boolean inner = token.equals("(");
        String word = token;
        boolean can = inner || isNumber()
                || Arrays.asList("lamps", "holds", "day", "visits", "men").contains(token);
        if (!can || units == 60 || inner && inside == 7) {
            throw new Fault(2, place);
        }
        units++;
        boolean isNumber = isNumber();
        next();
        if (inner) {
            Tree tree = either(inside + 1);
            want(")");
            return tree;
        }
        if (isNumber) {
            int number = Integer.parseInt(word);
            return seen -> number;
        }
        return seen -> seen.get(word);
    }

    // ---- the yard: a state is lamps, day, whether a fault was, then of each man holds, visits, been

    static final class Led {
        List<Integer> state;
        boolean says;
        boolean right;
        boolean lampsChanged;
        boolean heldChanged;
    }

    int allLamps() {
        return lamps == 2 ? 3 : 1;
    }

    List<Integer> starts() {
        return switch (start) {
            case "off" -> List.of(0);
            case "on" -> List.of(allLamps());
            default -> lamps == 2 ? List.of(0, 1, 2, 3) : List.of(0, 1);
        };
    }

    List<Integer> first(int litAtFirst) {
        List<Integer> state = new ArrayList<>(List.of(litAtFirst, 0, 0));
        for (int role : men) {
            state.addAll(List.of(holds.get(role), 0, 0));
        }
        return state;
    }

    Led lead(List<Integer> before, int man) {
        int lit = before.get(1) == fails ? 0 : before.get(0);
        int held = before.get(3 + 3 * man);
        int visits = before.get(4 + 3 * man);
        Map<String, Integer> seen = new HashMap<>(Map.of("lamps", lit, "holds", held, "day", before.get(1),
                "visits", visits, "men", men.size()));
        Led led = new Led();
        int litThen = lit;
        int heldThen = held;
        for (Rule rule : rules) {
            if (rule.role == men.get(man) && rule.when.value(seen) != 0) {
                int set = rule.set.value(seen);
                int hold = rule.hold.value(seen);
                litThen = Math.floorMod(set, lamps == 2 ? 4 : 2);
                heldThen = hold < 0 ? 0 : hold > 31 ? 31 : hold;
                led.says = rule.say;
                break;
            }
        }
        led.state = new ArrayList<>(before);
        led.state.set(0, litThen);
        led.state.set(1, (before.get(1) + 1) % cycle);
        led.state.set(3 + 3 * man, heldThen);
        led.state.set(4 + 3 * man, visits == 3 ? 3 : visits + 1);
        led.state.set(5 + 3 * man, 1);
        led.right = true;
        for (int other = 0; other < men.size(); other++) {
            led.right &= led.state.get(5 + 3 * other) == 1;
        }
        led.lampsChanged = litThen != lit;
        led.heldChanged = heldThen != held;
        return led;
    }

    List<List<Integer>> faulty(List<Integer> state, int fault) {
        List<List<Integer>> after = new ArrayList<>();
        int variants = fault == 0 ? men.size() : 1;
        for (int man = 0; man < variants; man++) {
            List<Integer> other = new ArrayList<>(state);
            other.set(2, 1);
            if (fault == 0) {
                other.set(3 + 3 * man, holds.get(men.get(man)));
                other.set(4 + 3 * man, 0);
            } else if (fault == 1) {
                other.set(0, 0);
            } else {
                other.set(0, state.get(0) % 2 == 0 ? state.get(0) + 1 : state.get(0) - 1);
            }
            after.add(other);
        }
        return after;
    }

    /** All states, each with its leads; with a fault (0 .. 2) or without one (-1). Null if spent. */
    Map<List<Integer>, List<Led>> states(int fault) {
        Map<List<Integer>, List<Led>> found = new LinkedHashMap<>();
        ArrayDeque<List<Integer>> waiting = new ArrayDeque<>();
        for (int lit : starts()) {
            waiting.add(first(lit));
        }
        while (!waiting.isEmpty()) {
            List<Integer> state = waiting.remove();
            if (found.containsKey(state)) {
                continue;
            }
            List<Led> leads = new ArrayList<>();
            found.put(state, leads);
            if (found.size() > 5000) {
                return null;
            }
            for (int man = 0; man < men.size(); man++) {
                Led led = lead(state, man);
                leads.add(led);
                if (!led.says) {
                    waiting.add(led.state);
                }
            }
            if (fault >= 0 && state.get(2) == 0) {
                waiting.addAll(faulty(state, fault));
            }
        }
        return found;
    }

    static long wrongs(Map<List<Integer>, List<Led>> states) {
        return states.values().stream().flatMap(List::stream).filter(led -> led.says && !led.right).count();
    }

    static long rights(Map<List<Integer>, List<Led>> states) {
        return states.values().stream().flatMap(List::stream).filter(led -> led.says && led.right).count();
    }

    int idle(Map<List<Integer>, List<Led>> states) {
        int idle = 0;
        for (int man = 0; man < men.size(); man++) {
            int the = man;
            boolean works = states.values().stream().map(leads -> leads.get(the))
                    .anyMatch(led -> led.lampsChanged || led.heldChanged);
            idle += works ? 0 : 1 << man;
        }
        return idle;
    }

    /** States from which a walk comes back to them on which every man is led: by the word. */
    int endless(Map<List<Integer>, List<Led>> states) {
        int count = 0;
        for (List<Integer> state : states.keySet()) {
            count += comesBack(states, state) ? 1 : 0;
        }
        return count;
    }

    private boolean comesBack(Map<List<Integer>, List<Led>> states, List<Integer> home) {
        Map<List<Integer>, boolean[]> been = new HashMap<>();
        ArrayDeque<List<Integer>> waiting = new ArrayDeque<>();
        ArrayDeque<Integer> masks = new ArrayDeque<>();
        waiting.add(home);
        masks.add(0);
        int every = (1 << men.size()) - 1;
        while (!waiting.isEmpty()) {
            List<Integer> state = waiting.remove();
            int mask = masks.remove();
            for (int man = 0; man < men.size(); man++) {
                Led led = states.get(state).get(man);
                int then = mask | 1 << man;
                if (led.says) {
                    continue;
                }
                if (then == every && led.state.equals(home)) {
                    return true;
                }
                boolean[] masksThere = been.computeIfAbsent(led.state, key -> new boolean[every + 1]);
                if (!masksThere[then]) {
                    masksThere[then] = true;
                    waiting.add(led.state);
                    masks.add(then);
                }
            }
        }
        return false;
    }

    /** How a row of men goes from a start: 0 nobody says, 1 the last says rightly, 2 wrongly, 3 one ahead of him says. */
    int goes(int lit, int[] row) {
        List<Integer> state = first(lit);
        for (int i = 0; i < row.length; i++) {
            Led led = lead(state, row[i]);
            if (led.says) {
                return i < row.length - 1 ? 3 : led.right ? 1 : 2;
            }
            state = led.state;
        }
        return 0;
    }

    /** Counts, over all rows of so many days from a start: 0 said by then, 1 wrongly. */
    long[] said(int lit, int days) {
        long[] counts = new long[2];
        Map<List<Integer>, Long> ways = new HashMap<>();
        ways.put(first(lit), 1L);
        for (int day = 0; day < days; day++) {
            Map<List<Integer>, Long> then = new HashMap<>();
            long rest = 1;
            for (int i = day + 1; i < days; i++) {
                rest *= men.size();
            }
            for (Map.Entry<List<Integer>, Long> entry : ways.entrySet()) {
                for (int man = 0; man < men.size(); man++) {
                    Led led = lead(entry.getKey(), man);
                    if (led.says) {
                        counts[0] += entry.getValue() * rest;
                        counts[1] += led.right ? 0 : entry.getValue() * rest;
                    } else {
                        then.merge(led.state, entry.getValue(), Long::sum);
                    }
                }
            }
            ways = then;
        }
        return counts;
    }

    // ---- logs

    static final class Log {
        int day;
        int man;
        int told;
        int untold = Integer.MAX_VALUE;
        boolean isUntold;
    }

    static List<Log> counting(List<Log> logs, int k) {
        List<Log> count = new ArrayList<>();
        for (Log log : logs) {
            if (log.told <= k && !(log.isUntold && log.untold <= k)) {
                count.add(log);
            }
        }
        return count;
    }

    static TreeMap<Integer, Integer> menByDay(List<Log> logs, int k) {
        TreeMap<Integer, Integer> byDay = new TreeMap<>();
        for (Log log : counting(logs, k)) {
            byDay.put(log.day, log.man);
        }
        return byDay;
    }
}
