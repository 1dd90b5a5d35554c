import java.util.Arrays;

/**
 * Men who are led out one a day to a room with lamps, and go by a plan told in a text.
 *
 * <p>What it promises stands in the document; README.md says how it is used.
 */
public final class LampYard {
    public static final int NONE = -1;

    private static final int SPENT = -2;
    private static final int MOST_BYTES = 1400;
    private static final int FEED_BYTES = 20;
    private static final int MOST_MEN = 6;
    private static final int MOST_HELD = 31;
    private static final int MOST_VISITS = 3;
    private static final int MOST_DAYS = 10000;
    private static final int MOST_STATES = 5000;
    private static final int BOXES = 3;

    private final byte[] tape;
    private int taped;
    private final Reader reader;
    private Plan current;
    private Plan spare;
    private final Course course;
    private final Course[] boxes;
    private final Logs logs;
    // These three take much room, so each is made when first asked for.
    private Survey survey;
    private Faults faults;
    private Chance chance;
    private boolean surveyed;

    public LampYard() {
        tape = new byte[MOST_BYTES];
        reader = new Reader();
        current = new Plan();
        spare = new Plan();
        course = new Course();
        boxes = new Course[BOXES];
        for (int box = 0; box < BOXES; box++) {
            boxes[box] = new Course();
        }
        logs = new Logs();
        startAnew();
    }

    public int feed(int a, int b, int c, int d, int e) {
        if (taped > MOST_BYTES - FEED_BYTES) {
            return NONE;
        }
        putOnTape(a);
        putOnTape(b);
        putOnTape(c);
        putOnTape(d);
        putOnTape(e);
        return taped;
    }

    public int end(int n) {
        if (n < 0 || n > taped) {
            return NONE;
        }
        taped = n;
        return n;
    }

    public int plan() {
        boolean good = reader.reads(tape, taped, spare);
        taped = 0;
        if (!good) {
            return NONE;
        }
        Plan old = current;
        current = spare;
        spare = old;
        startAnew();
        return current.men;
    }

    public int fault(int what) {
        if (what == 0) {
            return reader.fault;
        }
        return what == 1 ? reader.faultPlace : NONE;
    }

    public boolean begin(int lamps) {
        if (!current.canBeLamps(lamps)) {
            return false;
        }
        course.startWith(current, lamps);
        return true;
    }

    public int lead(int man) {
        if (!current.hasMan(man) || course.over || course.day >= MOST_DAYS) {
            return NONE;
        }
        return course.leadOut(current, man);
    }

    public boolean forget(int man) {
        if (!current.hasMan(man) || course.over) {
            return false;
        }
        course.state = current.forgotten(course.state, man);
        return true;
    }

    public int dark(int lamps) {
        if (!current.canBeLamps(lamps) || course.over) {
            return NONE;
        }
        int before = State.lampsOf(course.state);
        course.state = State.withLamps(course.state, lamps);
        return before;
    }

    public int man(int man, int what) {
        if (!current.hasMan(man)) {
            return NONE;
        }
        switch (what) {
            case 0:
                return current.roleOf(man);
            case 1:
                return State.heldBy(course.state, man);
            case 2:
                return State.visitsOf(course.state, man);
            case 3:
                return State.hasBeen(course.state, man) ? 1 : 0;
            case 4:
                return course.burdens[man];
            default:
                return NONE;
        }
    }

    public int states(int what) {
        if (what < 0 || what > 2) {
            return NONE;
        }
        Survey found = surveyOfPlan();
        if (found.spent) {
            return SPENT;
        }
        if (what == 0) {
            return found.set.size;
        }
        return what == 1 ? found.rightly : found.wrongly;
    }

    public int right() {
        Survey found = surveyOfPlan();
        if (found.spent) {
            return SPENT;
        }
        return found.wrongly == 0 ? 1 : 0;
    }

    public int shown(int what) {
        if (what < 0 || what > 1) {
            return NONE;
        }
        Survey found = surveyOfPlan();
        if (found.spent) {
            return SPENT;
        }
        if (found.rowLength == 0) {
            return NONE;
        }
        return what == 0 ? found.rowLength : found.rowStart;
    }

    public int shows(int i) {
        Survey found = surveyOfPlan();
        if (found.spent) {
            return SPENT;
        }
        return i < 0 || i >= found.rowLength ? NONE : found.row[i];
    }

    public int soonest() {
        Survey found = surveyOfPlan();
        return found.spent ? SPENT : found.soonestDays;
    }

    public int ends() {
        Survey found = surveyOfPlan();
        if (found.spent) {
            return SPENT;
        }
        return found.statesInRounds() == 0 ? 1 : 0;
    }

    public int endless() {
        Survey found = surveyOfPlan();
        return found.spent ? SPENT : found.statesInRounds();
    }

    public int idle() {
        Survey found = surveyOfPlan();
        return found.spent ? SPENT : found.idlers;
    }

    public int most(int man) {
        if (!current.hasMan(man)) {
            return NONE;
        }
        Survey found = surveyOfPlan();
        return found.spent ? SPENT : found.mostHeld[man];
    }

    public int bears(int fault) {
        if (fault < 0 || fault >= Faults.KINDS) {
            return NONE;
        }
        Survey found = surveyOfPlan();
        if (found.spent) {
            return SPENT;
        }
        if (faults == null) {
            faults = new Faults();
        }
        return faults.borne(found, fault);
    }

    public long said(int lamps, int days, int what, int part) {
        if (!current.isStart(lamps) || days < 0 || days > Chance.MOST_SAID_DAYS
                || what < 0 || what > 1 || part < 0 || part > 1 || current.men == 0) {
            return NONE;
        }
        Survey found = surveyOfPlan();
        if (found.spent) {
            return SPENT;
        }
        if (chance == null) {
            chance = new Chance();
        }
        long ways = chance.waysSaid(found, lamps, days, what);
        return Chance.partOf(ways, Chance.power(current.men, days), part);
    }

    public long all(int n, int days, int part) {
        if (n < 1 || n > MOST_MEN || days < 0 || days > Chance.MOST_ALL_DAYS || part < 0 || part > 1) {
            return NONE;
        }
        return Chance.partOf(Chance.waysAllBeen(n, days), Chance.power(n, days), part);
    }

    public int guess(int n, int w) {
        if (n < 1 || n > MOST_MEN || w < 0 || w > 1000) {
            return NONE;
        }
        return Chance.daysEnough(n, w);
    }

    public long mean(int n, int part) {
        if (n < 1 || n > MOST_MEN || part < 0 || part > 1) {
            return NONE;
        }
        return Chance.partOf(Chance.sixtyMeans(n), 60, part);
    }

    public int counter(int n, int k, int known, int what) {
        if (n < 2 || n > 4 || k < 1 || k > 3 || known < 0 || known > 1) {
            return NONE;
        }
        // Without one of the others he can come to this and no further: all that the rest
        // put on, and what may have been on at first. One more shows that all have been.
        int found = (n - 2) * k + (1 - known) + 1;
        if (what == 0) {
            return found;
        }
        // It goes on for ever only if all others have put on all they may, from off at first,
        // and he has still not come to it.
        int sure = found <= (n - 1) * k ? 1 : 0;
        return what == 1 ? sure : NONE;
    }

    public int fair() {
        if (current.men == 0) {
            return NONE;
        }
        return course.unevenness(current.men);
    }

    public int log(int day, int man) {
        if (!current.hasMan(man)) {
            return NONE;
        }
        return logs.tell(day, man);
    }

    public boolean untell(int log) {
        return logs.takeBack(log);
    }

    public int later(int by) {
        return logs.goOn(by);
    }

    public int logged(int what, int k) {
        if (what == 0) {
            return logs.dayByWhichAll(current.men, k);
        }
        return what == 1 ? logs.clashes(k) : NONE;
    }

    public int last(int man, int k) {
        return current.hasMan(man) ? logs.latestOf(man, k) : NONE;
    }

    public int agrees(int lamps, int k) {
        return current.canBeLamps(lamps) ? logs.agreement(current, lamps, k) : NONE;
    }

    public int image(int box) {
        if (box < 0 || box >= BOXES) {
            return NONE;
        }
        boxes[box].copy(course);
        boxes[box].kept = true;
        return course.day;
    }

    public int back(int box) {
        if (box < 0 || box >= BOXES || !boxes[box].kept) {
            return NONE;
        }
        course.copy(boxes[box]);
        return course.day;
    }

    public int about(int what) {
        switch (what) {
            case 0:
                return current.men;
            case 1:
                return current.roles;
            case 2:
                return current.rules;
            case 3:
                return course.day;
            case 4:
                return State.lampsOf(course.state);
            case 5:
                return course.over ? 1 : 0;
            case 6:
                return logs.count;
            case 7:
                return logs.time;
            case 8:
                return taped;
            case 9:
                return current.units;
            default:
                return NONE;
        }
    }

    private void putOnTape(int number) {
        for (int shift = 24; shift >= 0 && taped < MOST_BYTES; shift -= 8) {
            tape[taped] = (byte) (number >>> shift);
            taped++;
        }
    }

    private void startAnew() {
        logs.count = 0;
        for (int box = 0; box < BOXES; box++) {
            boxes[box].kept = false;
        }
        surveyed = false;
        if (faults != null) {
            faults.clear();
        }
        if (chance != null) {
            chance.clear();
        }
        course.startWith(current, 0);
    }

    private Survey surveyOfPlan() {
        if (survey == null) {
            survey = new Survey();
        }
        if (!surveyed) {
            surveyed = true;
            survey.explore(current);
        }
        return survey;
    }

    /**
     * A state in one long: lamps in bits 0 and 1, day in bits 2 to 5; then for each man eight
     * bits: five for what he holds, two for the visits he knows of, one for having been there.
     */
    private static final class State {
        private static final int FIRST_MAN = 6;
        private static final int MAN_BITS = 8;

        static int lampsOf(long state) {
            return (int) state & 3;
        }

        static int dayOf(long state) {
            return (int) (state >>> 2) & 15;
        }

        static int heldBy(long state, int man) {
            return (int) (state >>> FIRST_MAN + MAN_BITS * man) & MOST_HELD;
        }

        static int visitsOf(long state, int man) {
            return (int) (state >>> FIRST_MAN + MAN_BITS * man + 5) & MOST_VISITS;
        }

        static boolean hasBeen(long state, int man) {
            return (state >>> FIRST_MAN + MAN_BITS * man + 7 & 1) != 0;
        }

        static long withLamps(long state, int lamps) {
            return state & ~3L | lamps & 3;
        }

        static long withDay(long state, int day) {
            return state & ~(15L << 2) | (day & 15L) << 2;
        }

        static long withMind(long state, int man, int held, int visits) {
            int shift = FIRST_MAN + MAN_BITS * man;
            long mind = (visits & MOST_VISITS) << 5 | held & MOST_HELD;
            return state & ~(127L << shift) | mind << shift;
        }

        static long withBeen(long state, int man) {
            return state | 1L << FIRST_MAN + MAN_BITS * man + 7;
        }
    }

    /** A plan that has been read: its settings, its roles, and its rules as code for a stack. */
    private static final class Plan {
        static final int MOST_ROLES = 4;
        static final int MOST_RULES = 16;
        static final int MOST_UNITS = 60;
        static final int MOST_CYCLE = 12;
        static final int MOST_LAMPS = 2;
        static final int PARTS = 3;

        static final int START_OFF = 0;
        static final int START_ON = 1;
        static final int START_ANY = 2;

        // Code of 0 or more is a number; that of a sight picks one of the sights, the first by -1.
        static final int LAMPS_SEEN = -1;
        static final int HELD = -2;
        static final int DAY = -3;
        static final int VISITS = -4;
        static final int MEN = -5;
        static final int OR = -6;
        static final int AND = -7;
        static final int NOT = -8;
        static final int LESS = -9;
        static final int MORE = -10;
        static final int SAME = -11;
        static final int PLUS = -12;
        static final int MINUS = -13;
        static final int TIMES = -14;

        // An outcome of being led: lamps in bits 0 and 1, what he holds in bits 2 to 6, and these.
        static final int SAYS = 128;
        static final int LAMPS_CHANGED = 256;
        static final int HELD_CHANGED = 512;

        // 60 units, 59 signs between them, and no more than 7 nots ahead of each.
        private static final int CODE_ROOM = 540;

        int lampCount;
        int cycle;
        int fails;
        int start;
        int roles;
        int men;
        int rules;
        int units;
        private final int[] heldAtFirst;
        private final int[] roleByMan;
        private final int[] roleByRule;
        private final boolean[] ruleSays;
        private final int[] partEnds;
        private final int[] code;
        private int codeLength;
        private final int[] sights;
        private final int[] stack;

        Plan() {
            heldAtFirst = new int[MOST_ROLES];
            roleByMan = new int[MOST_MEN];
            roleByRule = new int[MOST_RULES];
            ruleSays = new boolean[MOST_RULES];
            partEnds = new int[MOST_RULES * PARTS];
            code = new int[CODE_ROOM];
            sights = new int[5];
            stack = new int[MOST_UNITS];
            empty();
        }

        void empty() {
            lampCount = 1;
            cycle = 1;
            fails = NONE;
            start = START_OFF;
            roles = 0;
            men = 0;
            rules = 0;
            units = 0;
            codeLength = 0;
        }

        void addRole(int itsMen, int held) {
            if (roles >= MOST_ROLES) {
                return;
            }
            heldAtFirst[roles] = held;
            for (int i = 0; i < itsMen && men < MOST_MEN; i++) {
                roleByMan[men] = roles;
                men++;
            }
            roles++;
        }

        void addCode(int op) {
            if (codeLength < CODE_ROOM) {
                code[codeLength] = op;
                codeLength++;
            }
        }

        /** Ends a part (when, set or hold) of the rule that is being read. */
        void endPart(int part) {
            int at = rules * PARTS + part;
            if (at >= 0 && at < partEnds.length) {
                partEnds[at] = codeLength;
            }
        }

        void addRule(int role, boolean says) {
            if (rules < MOST_RULES) {
                roleByRule[rules] = role;
                ruleSays[rules] = says;
                rules++;
            }
        }

        boolean hasMan(int man) {
            return man >= 0 && man < men;
        }

        int roleOf(int man) {
            return man >= 0 && man < MOST_MEN ? roleByMan[man] : 0;
        }

        boolean canBeLamps(int lamps) {
            return lamps >= 0 && lamps <= allOn();
        }

        boolean isStart(int lamps) {
            if (start == START_ANY) {
                return canBeLamps(lamps);
            }
            return lamps == (start == START_ON ? allOn() : 0);
        }

        long firstState(int lamps) {
            long state = State.withLamps(0, lamps);
            for (int man = 0; man < men; man++) {
                state = forgotten(state, man);
            }
            return state;
        }

        long forgotten(long state, int man) {
            return State.withMind(state, man, heldAtFirst[roleOf(man)], 0);
        }

        boolean haveAllBeen(long state) {
            boolean all = true;
            for (int man = 0; man < men && all; man++) {
                all = State.hasBeen(state, man);
            }
            return all;
        }

        /** What comes of leading a man out in a state. */
        int outcome(long state, int man) {
            int role = roleOf(man);
            int day = State.dayOf(state);
            int seen = day == fails ? 0 : State.lampsOf(state);
            int held = State.heldBy(state, man);
            sights[-1 - LAMPS_SEEN] = seen;
            sights[-1 - HELD] = held;
            sights[-1 - DAY] = day;
            sights[-1 - VISITS] = State.visitsOf(state, man);
            sights[-1 - MEN] = men;
            for (int rule = 0; rule < rules; rule++) {
                if (roleByRule[rule] == role && valueOf(rule, 0) != 0) {
                    int set = valueOf(rule, 1) & allOn();
                    int hold = Math.max(0, Math.min(MOST_HELD, valueOf(rule, 2)));
                    return (ruleSays[rule] ? SAYS : 0) | (set != seen ? LAMPS_CHANGED : 0)
                            | (hold != held ? HELD_CHANGED : 0) | hold << 2 | set;
                }
            }
            return held << 2 | seen;
        }

        long after(long state, int man, int outcome) {
            int day = State.dayOf(state) + 1;
            int visits = Math.min(MOST_VISITS, State.visitsOf(state, man) + 1);
            long led = State.withLamps(state, outcome & 3);
            led = State.withDay(led, day < cycle ? day : 0);
            led = State.withMind(led, man, outcome >> 2 & MOST_HELD, visits);
            return State.withBeen(led, man);
        }

        private int allOn() {
            return lampCount == MOST_LAMPS ? 3 : 1;
        }

        private int valueOf(int rule, int part) {
            int at = rule * PARTS + part;
            int from = at > 0 ? partEnds[at - 1] : 0;
            int top = 0;
            for (int i = from; i < partEnds[at]; i++) {
                int op = code[i];
                if (op >= MEN) {
                    top = push(top, op >= 0 ? op : sights[-1 - op]);
                } else if (op == NOT && top > 0) {
                    stack[top - 1] = stack[top - 1] == 0 ? 1 : 0;
                } else if (top > 1) {
                    top--;
                    stack[top - 1] = joined(op, stack[top - 1], stack[top]);
                }
            }
            return top > 0 ? stack[top - 1] : 0;
        }

        private int push(int top, int value) {
            if (top >= MOST_UNITS) {
                return top;
            }
            stack[top] = value;
            return top + 1;
        }

        private static int joined(int op, int a, int b) {
            switch (op) {
                case OR:
                    return a != 0 || b != 0 ? 1 : 0;
                case AND:
                    return a != 0 && b != 0 ? 1 : 0;
                case LESS:
                    return a < b ? 1 : 0;
                case MORE:
                    return a > b ? 1 : 0;
                case SAME:
                    return a == b ? 1 : 0;
                case PLUS:
                    return a + b;
                case MINUS:
                    return a - b;
                default:
                    return a * b;
            }
        }
    }

    /** Reads a text as a plan, or finds its first fault. */
    private static final class Reader {
        private static final int NO_TOKEN = 1;
        private static final int MISPLACED = 2;
        private static final int TOLD_ALREADY = 3;
        private static final int BAD_NUMBER = 4;
        private static final int NO_SUCH_ROLE = 5;

        private static final int MOST_LETTERS = 8;
        private static final int MOST_DIGITS = 4;
        private static final int MOST_WITHIN = 6;

        // Words that stand for themselves, eight signs each; a token of such a word is its place here.
        private static final String WORDS =
                "lamps   cycle   fails   start   off     on      any     role    men     holds   rule    when    set     hold    say     or      and     not     day     visits  ";
        private static final int LAMPS = 0;
        private static final int CYCLE = 1;
        private static final int FAILS = 2;
        private static final int START = 3;
        private static final int OFF = 4;
        private static final int ON = 5;
        private static final int ANY = 6;
        private static final int ROLE = 7;
        private static final int MEN = 8;
        private static final int HOLDS = 9;
        private static final int RULE = 10;
        private static final int WHEN = 11;
        private static final int SET = 12;
        private static final int HOLD = 13;
        private static final int SAY = 14;
        private static final int OR = 15;
        private static final int AND = 16;
        private static final int NOT = 17;
        private static final int DAY = 18;
        private static final int VISITS = 19;
        private static final int WORD_COUNT = 20;
        // The other tokens; a sign's token is its byte, all of which are above these.
        private static final int NAME = 20;
        private static final int NUMBER = 21;
        private static final int END = 22;
        private static final int BROKEN = 23;

        // What is no code of a plan: a unit in brackets, and a token that begins no unit.
        private static final int INNER = -100;
        private static final int NO_UNIT = -101;

        int fault;
        int faultPlace;
        private byte[] text;
        private int length;
        private Plan plan;
        private final long[] roleNames;
        private int linesTold;
        // All tokens, behind them END or BROKEN: what each is, its first byte, and its value
        // (a number's own; of a word its letters as digits to the base 32).
        private final int[] kinds;
        private final int[] places;
        private final long[] values;
        private int tokens;
        private int at;
        private int token;

        Reader() {
            roleNames = new long[Plan.MOST_ROLES];
            kinds = new int[MOST_BYTES + 1];
            places = new int[MOST_BYTES + 1];
            values = new long[MOST_BYTES + 1];
            faultPlace = NONE;
        }

        boolean reads(byte[] bytes, int count, Plan into) {
            text = bytes;
            length = Math.min(count, MOST_BYTES);
            plan = into;
            plan.empty();
            fault = 0;
            faultPlace = NONE;
            linesTold = 0;
            splitText();
            at = NONE;
            advance();
            for (int i = 0; i < MOST_BYTES && fault == 0 && token != END; i++) {
                readLine();
            }
            return fault == 0;
        }

        private void splitText() {
            int next = 0;
            tokens = 0;
            for (int i = 0; i <= MOST_BYTES && next != NONE; i++) {
                next = takeToken(afterBlanks(next));
            }
        }

        private int afterBlanks(int from) {
            int next = from;
            for (int i = 0; i < MOST_BYTES && (byteAt(next) == ' ' || byteAt(next) == '\n'); i++) {
                next++;
            }
            return next;
        }

        /** Takes the token that begins here: what comes behind it, or NONE if nothing can. */
        private int takeToken(int from) {
            int first = byteAt(from);
            if (from >= length) {
                return addToken(END, from, 0, NONE);
            }
            if (isLetter(first)) {
                return takeWord(from);
            }
            if (isDigit(first)) {
                return takeNumber(from);
            }
            if (isSign(first)) {
                return addToken(first, from, 0, from + 1);
            }
            return addToken(BROKEN, from, 0, NONE);
        }

        private int takeWord(int from) {
            int next = from;
            long letters = 0;
            for (int i = 0; i < MOST_BYTES && isLetter(byteAt(next)); i++) {
                letters = letters * 32 + (byteAt(next) - 'a' + 1);
                next++;
            }
            if (next - from > MOST_LETTERS) {
                return addToken(BROKEN, from, 0, NONE);
            }
            return addToken(kindOfWord(from, next - from), from, letters, next);
        }

        private int takeNumber(int from) {
            int next = from;
            int number = 0;
            for (int i = 0; i < MOST_BYTES && isDigit(byteAt(next)); i++) {
                number = number * 10 + (byteAt(next) - '0');
                next++;
            }
            if (next - from > MOST_DIGITS || isLetter(byteAt(next))) {
                return addToken(BROKEN, from, 0, NONE);
            }
            return addToken(NUMBER, from, number, next);
        }

        private int addToken(int kind, int place, long value, int next) {
            if (tokens <= MOST_BYTES) {
                kinds[tokens] = kind;
                places[tokens] = place;
                values[tokens] = value;
                tokens++;
            }
            return next;
        }

        private int kindOfWord(int from, int letters) {
            for (int word = 0; word < WORD_COUNT; word++) {
                if (isWord(word * MOST_LETTERS, from, letters)) {
                    return word;
                }
            }
            return NAME;
        }

        private boolean isWord(int word, int from, int letters) {
            boolean same = letters == MOST_LETTERS || WORDS.charAt(word + letters) == ' ';
            for (int i = 0; i < letters && same; i++) {
                same = WORDS.charAt(word + i) == byteAt(from + i);
            }
            return same;
        }

        private int byteAt(int place) {
            return place >= 0 && place < length ? text[place] : NONE;
        }

        private static boolean isLetter(int sign) {
            return sign >= 'a' && sign <= 'z';
        }

        private static boolean isDigit(int sign) {
            return sign >= '0' && sign <= '9';
        }

        private static boolean isSign(int sign) {
            return sign == ';' || sign == '(' || sign == ')' || sign == '<' || sign == '>'
                    || sign == '=' || sign == '+' || sign == '-' || sign == '*';
        }

        private void readLine() {
            switch (token) {
                case LAMPS:
                case CYCLE:
                case FAILS:
                case START:
                    readSetting();
                    break;
                case ROLE:
                    readRole();
                    break;
                case RULE:
                    readRule();
                    break;
                default:
                    refuse(MISPLACED);
            }
            expect(';');
        }

        private void readSetting() {
            int line = token;
            if ((linesTold & 1 << line) != 0) {
                refuse(MISPLACED);
                return;
            }
            linesTold |= 1 << line;
            advance();
            if (line == LAMPS) {
                plan.lampCount = numberWithin(1, Plan.MOST_LAMPS);
            } else if (line == CYCLE) {
                plan.cycle = numberWithin(1, Plan.MOST_CYCLE);
            } else if (line == FAILS) {
                plan.fails = numberWithin(0, Plan.MOST_CYCLE - 1);
            } else {
                readStart();
            }
        }

        private void readStart() {
            if (token == OFF) {
                plan.start = Plan.START_OFF;
            } else if (token == ON) {
                plan.start = Plan.START_ON;
            } else if (token == ANY) {
                plan.start = Plan.START_ANY;
            } else {
                refuse(MISPLACED);
            }
            advance();
        }

        private void readRole() {
            if (plan.roles >= Plan.MOST_ROLES) {
                refuse(MISPLACED);
                return;
            }
            advance();
            if (token != NAME) {
                refuse(MISPLACED);
                return;
            }
            if (roleNamed(values[at]) != NONE) {
                refuse(TOLD_ALREADY);
                return;
            }
            roleNames[plan.roles] = values[at];
            advance();
            expect(MEN);
            int men = numberWithin(1, MOST_MEN - plan.men);
            expect(HOLDS);
            int held = numberWithin(0, MOST_HELD);
            plan.addRole(men, held);
        }

        private void readRule() {
            if (plan.rules >= Plan.MOST_RULES) {
                refuse(MISPLACED);
                return;
            }
            advance();
            if (token != NAME) {
                refuse(MISPLACED);
                return;
            }
            int role = roleNamed(values[at]);
            if (role == NONE) {
                refuse(NO_SUCH_ROLE);
                return;
            }
            advance();
            for (int part = 0; part < Plan.PARTS; part++) {
                expect(part == 0 ? WHEN : part == 1 ? SET : HOLD);
                readAny(0);
                plan.endPart(part);
            }
            boolean says = token == SAY;
            if (says) {
                advance();
            }
            plan.addRule(role, says);
        }

        private void readAny(int within) {
            readBoth(within);
            for (int i = 0; i < MOST_BYTES && token == OR; i++) {
                advance();
                readBoth(within);
                plan.addCode(Plan.OR);
            }
        }

        private void readBoth(int within) {
            readOne(within);
            for (int i = 0; i < MOST_BYTES && token == AND; i++) {
                advance();
                readOne(within);
                plan.addCode(Plan.AND);
            }
        }

        private void readOne(int within) {
            if (token == NOT) {
                if (within > MOST_WITHIN) {
                    refuse(MISPLACED);
                    return;
                }
                advance();
                readOne(within + 1);
                plan.addCode(Plan.NOT);
                return;
            }
            readSum(within);
            if (token == '<' || token == '>' || token == '=') {
                int op = token == '<' ? Plan.LESS : token == '>' ? Plan.MORE : Plan.SAME;
                advance();
                readSum(within);
                plan.addCode(op);
            }
        }

        private void readSum(int within) {
            readTerm(within);
            for (int i = 0; i < MOST_BYTES && (token == '+' || token == '-'); i++) {
                int op = token == '+' ? Plan.PLUS : Plan.MINUS;
                advance();
                readTerm(within);
                plan.addCode(op);
            }
        }

        private void readTerm(int within) {
            readUnit(within);
            for (int i = 0; i < MOST_BYTES && token == '*'; i++) {
                advance();
                readUnit(within);
                plan.addCode(Plan.TIMES);
            }
        }

        private void readUnit(int within) {
            int op = unitCode();
            if (plan.units >= Plan.MOST_UNITS || op == NO_UNIT || op == INNER && within > MOST_WITHIN) {
                refuse(MISPLACED);
                return;
            }
            plan.units++;
            advance();
            if (op == INNER) {
                readAny(within + 1);
                expect(')');
            } else {
                plan.addCode(op);
            }
        }

        private int unitCode() {
            switch (token) {
                case NUMBER:
                    return (int) values[at];
                case LAMPS:
                    return Plan.LAMPS_SEEN;
                case HOLDS:
                    return Plan.HELD;
                case DAY:
                    return Plan.DAY;
                case VISITS:
                    return Plan.VISITS;
                case MEN:
                    return Plan.MEN;
                case '(':
                    return INNER;
                default:
                    return NO_UNIT;
            }
        }

        private int numberWithin(int least, int most) {
            if (token != NUMBER) {
                refuse(MISPLACED);
                return least;
            }
            int number = (int) values[at];
            if (number < least || number > most) {
                refuse(BAD_NUMBER);
                return least;
            }
            advance();
            return number;
        }

        private int roleNamed(long wanted) {
            for (int role = 0; role < plan.roles && role < Plan.MOST_ROLES; role++) {
                if (roleNames[role] == wanted) {
                    return role;
                }
            }
            return NONE;
        }

        private void expect(int wanted) {
            if (token == wanted) {
                advance();
            } else {
                refuse(MISPLACED);
            }
        }

        private void advance() {
            if (fault != 0 || at >= tokens - 1) {
                return;
            }
            at++;
            token = kinds[at];
            if (token == BROKEN) {
                refuse(NO_TOKEN);
            }
        }

        /** Keeps the first fault; from it on no token is like any that could be wanted. */
        private void refuse(int kind) {
            if (fault == 0) {
                fault = kind;
                faultPlace = places[at];
            }
            token = BROKEN;
        }
    }

    /** Men led in earnest, day by day; also what a box keeps of it. */
    private static final class Course {
        long state;
        int day;
        boolean over;
        boolean kept;
        final int[] burdens;

        Course() {
            burdens = new int[MOST_MEN];
        }

        void startWith(Plan plan, int lamps) {
            state = plan.firstState(lamps);
            day = 0;
            over = false;
            Arrays.fill(burdens, 0);
        }

        void copy(Course other) {
            state = other.state;
            day = other.day;
            over = other.over;
            System.arraycopy(other.burdens, 0, burdens, 0, MOST_MEN);
        }

        int leadOut(Plan plan, int man) {
            int outcome = plan.outcome(state, man);
            state = plan.after(state, man, outcome);
            day++;
            if ((outcome & Plan.LAMPS_CHANGED) != 0) {
                burdens[man]++;
            }
            if ((outcome & Plan.SAYS) == 0) {
                return 0;
            }
            over = true;
            return plan.haveAllBeen(state) ? 1 : 2;
        }

        int unevenness(int men) {
            int least = burdens[0];
            int greatest = burdens[0];
            for (int man = 1; man < men && man < MOST_MEN; man++) {
                least = Math.min(least, burdens[man]);
                greatest = Math.max(greatest, burdens[man]);
            }
            return greatest - least;
        }
    }

    /** Outcomes of a plan, each found once: they depend on far less than the whole state. */
    private static final class Steps {
        private static final int ROOM = Plan.MOST_ROLES * Plan.MOST_CYCLE * 4 * 32 * 4;

        private final int[] found;

        Steps() {
            found = new int[ROOM];
        }

        void clear() {
            Arrays.fill(found, 0);
        }

        int outcome(Plan plan, long state, int man) {
            int at = plan.roleOf(man) * Plan.MOST_CYCLE + State.dayOf(state);
            at = at * 4 + State.lampsOf(state);
            at = (at * 32 + State.heldBy(state, man)) * 4 + State.visitsOf(state, man);
            if (at < 0 || at >= ROOM) {
                return plan.outcome(state, man);
            }
            if (found[at] == 0) {
                found[at] = plan.outcome(state, man) + 1;
            }
            return found[at] - 1;
        }
    }

    /** States, numbered from 0 on as they come. */
    private static final class StateSet {
        private static final int SLOTS = 8192;
        private static final long SPREAD = 0x9E3779B97F4A7C15L;

        int size;
        private int limit;
        private final long[] members;
        private final int[] slots;

        StateSet() {
            members = new long[MOST_STATES];
            slots = new int[SLOTS];
        }

        void clear(int mostMembers) {
            size = 0;
            limit = Math.min(mostMembers, MOST_STATES);
            Arrays.fill(slots, 0);
        }

        long member(int number) {
            return number >= 0 && number < size ? members[number] : 0;
        }

        /** The number of a state, which is put in if it is new; NONE if there is no room for it. */
        int numberOf(long state) {
            int slot = (int) (state * SPREAD >>> 51);
            for (int i = 0; i < SLOTS; i++) {
                int number = slots[slot] - 1;
                if (number < 0) {
                    return putIn(state, slot);
                }
                if (members[number] == state) {
                    return number;
                }
                slot = slot + 1 & SLOTS - 1;
            }
            return NONE;
        }

        private int putIn(long state, int slot) {
            if (size >= limit) {
                return NONE;
            }
            members[size] = state;
            size++;
            slots[slot] = size;
            return size - 1;
        }
    }

    /** All states that can be, looked through once for each plan, when first asked about. */
    private static final class Survey {
        // In place of a next state's number, where he says.
        static final int SAYS_RIGHTLY = -1;
        static final int SAYS_WRONGLY = -2;

        final Steps steps;
        final StateSet set;
        final int[] row;
        final int[] mostHeld;
        Plan plan;
        boolean spent;
        int rightly;
        int wrongly;
        int soonestDays;
        int rowLength;
        int rowStart;
        int idlers;
        private final int[] next;
        private final int[] cameFrom;
        private Rounds rounds;
        private int inRounds;

        Survey() {
            steps = new Steps();
            set = new StateSet();
            row = new int[MOST_STATES];
            mostHeld = new int[MOST_MEN];
            next = new int[MOST_STATES * MOST_MEN];
            cameFrom = new int[MOST_STATES];
        }

        void explore(Plan by) {
            plan = by;
            steps.clear();
            set.clear(MOST_STATES);
            spent = false;
            rightly = 0;
            wrongly = 0;
            soonestDays = NONE;
            rowLength = 0;
            rowStart = NONE;
            idlers = (1 << plan.men) - 1;
            Arrays.fill(mostHeld, 0);
            inRounds = NONE;
            putStarts();
            for (int number = 0; number < MOST_STATES && number < set.size && !spent; number++) {
                leadAll(number);
            }
        }

        /** The state's number behind one in which a man is led, or how he says there. */
        int nextOf(int number, int man) {
            return next[number * MOST_MEN + man];
        }

        int statesInRounds() {
            if (rounds == null) {
                rounds = new Rounds();
            }
            if (inRounds == NONE) {
                inRounds = rounds.countStates(this);
            }
            return inRounds;
        }

        // Starts from the least on, and men likewise below: so the first row that is found to
        // any state, and the first that shows a wrong word, is the one that the document wants.
        private void putStarts() {
            for (int lamps = 0; lamps < 4; lamps++) {
                int number = plan.isStart(lamps) ? set.numberOf(plan.firstState(lamps)) : NONE;
                if (number != NONE) {
                    cameFrom[number] = NONE;
                }
            }
        }

        private void leadAll(int number) {
            long state = set.member(number);
            for (int man = 0; man < plan.men && !spent; man++) {
                mostHeld[man] = Math.max(mostHeld[man], State.heldBy(state, man));
                int outcome = steps.outcome(plan, state, man);
                if ((outcome & (Plan.LAMPS_CHANGED | Plan.HELD_CHANGED)) != 0) {
                    idlers &= ~(1 << man);
                }
                long led = plan.after(state, man, outcome);
                boolean says = (outcome & Plan.SAYS) != 0;
                next[number * MOST_MEN + man] = says ? noteSaid(number, man, led) : goOn(number, man, led);
            }
        }

        private int noteSaid(int number, int man, long led) {
            if (plan.haveAllBeen(led)) {
                rightly++;
                if (soonestDays == NONE) {
                    soonestDays = daysTo(number) + 1;
                }
                return SAYS_RIGHTLY;
            }
            wrongly++;
            if (rowLength == 0) {
                keepRow(number, man);
            }
            return SAYS_WRONGLY;
        }

        private int goOn(int number, int man, long led) {
            int before = set.size;
            int to = set.numberOf(led);
            spent = to == NONE;
            if (set.size > before && to != NONE) {
                cameFrom[to] = number * 8 + man;
            }
            return to;
        }

        private int daysTo(int number) {
            int days = 0;
            for (int at = number; days < MOST_STATES && cameFrom[at] != NONE; days++) {
                at = cameFrom[at] >> 3;
            }
            return days;
        }

        private void keepRow(int number, int man) {
            int at = number;
            rowLength = daysTo(number) + 1;
            row[rowLength - 1] = man;
            for (int i = rowLength - 2; i >= 0; i--) {
                row[i] = cameFrom[at] & 7;
                at = cameFrom[at] >> 3;
            }
            rowStart = State.lampsOf(set.member(at));
        }
    }

    /**
     * Finds the states in endless rounds. A round may pass a state again, so they are all states
     * of each knot (of states that all lead to one another) within which every man is led.
     */
    private static final class Rounds {
        // Each state is left once, and each of its leads looked at once.
        private static final int MOST_STEPS = MOST_STATES * (MOST_MEN + 1);

        private Survey survey;
        private final int[] order;
        private final int[] lowest;
        private final int[] knot;
        private final int[] looked;
        private final int[] open;
        private final int[] path;
        private int opened;
        private int deep;
        private int entered;
        private int knots;
        private int found;

        Rounds() {
            order = new int[MOST_STATES];
            lowest = new int[MOST_STATES];
            knot = new int[MOST_STATES];
            looked = new int[MOST_STATES];
            open = new int[MOST_STATES];
            path = new int[MOST_STATES];
        }

        int countStates(Survey of) {
            survey = of;
            Arrays.fill(order, 0);
            Arrays.fill(knot, 0);
            opened = 0;
            deep = 0;
            entered = 0;
            knots = 0;
            found = 0;
            for (int number = 0; number < survey.set.size; number++) {
                if (order[number] == 0) {
                    goFrom(number);
                }
            }
            return found;
        }

        private void goFrom(int first) {
            enter(first);
            for (int i = 0; i < MOST_STEPS && deep > 0; i++) {
                int at = path[deep - 1];
                if (looked[at] < survey.plan.men) {
                    looked[at]++;
                    look(at, survey.nextOf(at, looked[at] - 1));
                } else {
                    leave(at);
                }
            }
        }

        private void enter(int number) {
            entered++;
            order[number] = entered;
            lowest[number] = entered;
            looked[number] = 0;
            open[opened] = number;
            opened++;
            path[deep] = number;
            deep++;
        }

        private void look(int at, int to) {
            if (to < 0) {
                return;
            }
            if (order[to] == 0) {
                enter(to);
            } else if (knot[to] == 0) {
                lowest[at] = Math.min(lowest[at], order[to]);
            }
        }

        private void leave(int at) {
            deep--;
            if (deep > 0) {
                int above = path[deep - 1];
                lowest[above] = Math.min(lowest[above], lowest[at]);
            }
            if (lowest[at] == order[at]) {
                tieKnot(at);
            }
        }

        private void tieKnot(int bottom) {
            int top = opened;
            knots++;
            for (int i = 0; i < MOST_STATES && opened > 0 && knot[bottom] == 0; i++) {
                opened--;
                knot[open[opened]] = knots;
            }
            int led = 0;
            for (int i = opened; i < top; i++) {
                led |= menLedWithin(open[i]);
            }
            if (led != 0 && led == (1 << survey.plan.men) - 1) {
                found += top - opened;
            }
        }

        private int menLedWithin(int number) {
            int led = 0;
            for (int man = 0; man < survey.plan.men; man++) {
                int to = survey.nextOf(number, man);
                if (to >= 0 && knot[to] == knot[number]) {
                    led |= 1 << man;
                }
            }
            return led;
        }
    }

    /** Which faults a plan bears: the states behind a fault are looked through beside the others. */
    private static final class Faults {
        static final int KINDS = 3;
        private static final int FORGETS = 0;
        private static final int GO_OFF = 1;
        private static final int NOT_KNOWN = -3;

        private final int[] answers;
        private final StateSet behind;
        private boolean full;

        Faults() {
            answers = new int[KINDS];
            behind = new StateSet();
            clear();
        }

        void clear() {
            Arrays.fill(answers, NOT_KNOWN);
        }

        int borne(Survey survey, int kind) {
            if (kind < 0 || kind >= KINDS) {
                return NONE;
            }
            if (answers[kind] == NOT_KNOWN) {
                answers[kind] = lookThrough(survey, kind);
            }
            return answers[kind];
        }

        private int lookThrough(Survey survey, int kind) {
            behind.clear(MOST_STATES - survey.set.size);
            full = false;
            for (int number = 0; number < survey.set.size && !full; number++) {
                putFaulty(survey.plan, survey.set.member(number), kind);
            }
            boolean wrong = survey.wrongly > 0;
            for (int number = 0; number < MOST_STATES && number < behind.size && !full; number++) {
                wrong |= saysWrongly(survey, behind.member(number));
            }
            if (full) {
                return SPENT;
            }
            return wrong ? 0 : 1;
        }

        private void putFaulty(Plan plan, long state, int kind) {
            if (kind == FORGETS) {
                for (int man = 0; man < plan.men; man++) {
                    putBehind(plan.forgotten(state, man));
                }
            } else {
                int lamps = kind == GO_OFF ? 0 : State.lampsOf(state) ^ 1;
                putBehind(State.withLamps(state, lamps));
            }
        }

        private void putBehind(long state) {
            if (behind.numberOf(state) == NONE) {
                full = true;
            }
        }

        private boolean saysWrongly(Survey survey, long state) {
            Plan plan = survey.plan;
            boolean wrong = false;
            for (int man = 0; man < plan.men; man++) {
                int outcome = survey.steps.outcome(plan, state, man);
                long led = plan.after(state, man, outcome);
                if ((outcome & Plan.SAYS) == 0) {
                    putBehind(led);
                } else {
                    wrong |= !plan.haveAllBeen(led);
                }
            }
            return wrong;
        }
    }

    /** Odds when each day any man is led, all alike: as counts of equally likely rows of men. */
    private static final class Chance {
        static final int MOST_SAID_DAYS = 12;
        static final int MOST_ALL_DAYS = 20;
        private static final int STARTS = 4;
        private static final int SPAN = MOST_SAID_DAYS + 1;

        private final boolean[] counted;
        private final long[] waysSo;
        private final long[] waysWrong;
        private long[] ways;
        private long[] waysThen;

        Chance() {
            counted = new boolean[STARTS];
            waysSo = new long[STARTS * SPAN];
            waysWrong = new long[STARTS * SPAN];
            ways = new long[MOST_STATES];
            waysThen = new long[MOST_STATES];
        }

        void clear() {
            for (int start = 0; start < STARTS; start++) {
                counted[start] = false;
            }
        }

        /** How many rows of so many men there are in which one has said so (what 0), wrongly (1). */
        long waysSaid(Survey survey, int start, int days, int what) {
            if (start < 0 || start >= STARTS || days < 0 || days >= SPAN) {
                return 0;
            }
            if (!counted[start]) {
                counted[start] = true;
                countWays(survey, start);
            }
            return what == 0 ? waysSo[start * SPAN + days] : waysWrong[start * SPAN + days];
        }

        private void countWays(Survey survey, int start) {
            Arrays.fill(ways, 0);
            Arrays.fill(waysThen, 0);
            int first = survey.set.numberOf(survey.plan.firstState(start));
            if (first != NONE) {
                ways[first] = 1;
            }
            waysSo[start * SPAN] = 0;
            waysWrong[start * SPAN] = 0;
            for (int day = 1; day < SPAN; day++) {
                int at = start * SPAN + day;
                waysSo[at] = waysSo[at - 1] * survey.plan.men;
                waysWrong[at] = waysWrong[at - 1] * survey.plan.men;
                goOneDay(survey, at);
                long[] old = ways;
                ways = waysThen;
                waysThen = old;
            }
        }

        private void goOneDay(Survey survey, int at) {
            for (int number = 0; number < survey.set.size; number++) {
                long here = ways[number];
                ways[number] = 0;
                for (int man = 0; here != 0 && man < survey.plan.men; man++) {
                    int to = survey.nextOf(number, man);
                    if (to >= 0) {
                        waysThen[to] += here;
                    } else {
                        waysSo[at] += here;
                        waysWrong[at] += to == Survey.SAYS_WRONGLY ? here : 0;
                    }
                }
            }
        }

        /** In how many rows of so many of n men each of them stands. */
        static long waysAllBeen(int n, int days) {
            long sum = 0;
            long choices = 1;
            for (int out = 0; out <= n; out++) {
                long rows = choices * power(n - out, days);
                sum += out % 2 == 0 ? rows : -rows;
                choices = choices * (n - out) / (out + 1);
            }
            return sum;
        }

        static int daysEnough(int n, int w) {
            for (int days = 0; days <= MOST_ALL_DAYS; days++) {
                long rows = power(n, days);
                if ((rows - waysAllBeen(n, days)) * 1000 <= w * rows) {
                    return days;
                }
            }
            return NONE;
        }

        /** Sixty times the mean of days till all n have been: 60 is a multiple of all up to six. */
        static long sixtyMeans(int n) {
            long sum = 0;
            for (int missing = 1; missing <= n; missing++) {
                sum += n * (60L / missing);
            }
            return sum;
        }

        static long power(int base, int exponent) {
            long product = 1;
            for (int i = 0; i < exponent; i++) {
                product *= base;
            }
            return product;
        }

        /** The upper (0) or lower part (1) of a fraction in lowest terms. */
        static long partOf(long upper, long lower, int part) {
            long common = lower;
            long rest = upper;
            for (int i = 0; i < 100 && rest != 0; i++) {
                long before = common;
                common = rest;
                rest = before % common;
            }
            if (common == 0) {
                return 0;
            }
            return (part == 0 ? upper : lower) / common;
        }
    }

    /** Logs of days: when each was told, and when untold. */
    private static final class Logs {
        private static final int MOST = 60;
        private static final int DAYS = 100;
        private static final int MOST_LATER = 1000;
        private static final int MOST_TIME = 100000;

        int count;
        int time;
        private final int[] days;
        private final int[] men;
        private final int[] toldAt;
        private final int[] untoldAt;
        private final int[] manOn;
        private final int[] allOn;

        Logs() {
            days = new int[MOST];
            men = new int[MOST];
            toldAt = new int[MOST];
            untoldAt = new int[MOST];
            manOn = new int[DAYS];
            allOn = new int[DAYS];
        }

        int tell(int day, int man) {
            if (day < 0 || day >= DAYS || count >= MOST) {
                return NONE;
            }
            days[count] = day;
            men[count] = man;
            toldAt[count] = time;
            untoldAt[count] = NONE;
            count++;
            return count - 1;
        }

        boolean takeBack(int number) {
            if (number < 0 || number >= count || untoldAt[number] != NONE) {
                return false;
            }
            untoldAt[number] = time;
            return true;
        }

        int goOn(int by) {
            if (by < 0 || by > MOST_LATER || time + by > MOST_TIME) {
                return NONE;
            }
            time += by;
            return time;
        }

        int dayByWhichAll(int menInAll, int k) {
            gather(k);
            int wanted = (1 << menInAll) - 1;
            int seen = 0;
            for (int day = 0; day < DAYS && wanted != 0; day++) {
                if (manOn[day] != NONE) {
                    seen |= 1 << manOn[day];
                }
                if (seen == wanted) {
                    return day;
                }
            }
            return NONE;
        }

        int clashes(int k) {
            gather(k);
            int clashing = 0;
            for (int day = 0; day < DAYS; day++) {
                if (Integer.bitCount(allOn[day]) > 1) {
                    clashing++;
                }
            }
            return clashing;
        }

        int latestOf(int man, int k) {
            gather(k);
            int latest = NONE;
            for (int day = 0; day < DAYS; day++) {
                if (manOn[day] == man) {
                    latest = day;
                }
            }
            return latest;
        }

        int agreement(Plan plan, int lamps, int k) {
            int latest = latestWithoutGap(k);
            if (latest == NONE) {
                return NONE;
            }
            long state = plan.firstState(lamps);
            for (int day = 0; day <= latest; day++) {
                int outcome = plan.outcome(state, manOn[day]);
                state = plan.after(state, manOn[day], outcome);
                if ((outcome & Plan.SAYS) != 0) {
                    return day == latest && plan.haveAllBeen(state) ? 1 : 0;
                }
            }
            return 1;
        }

        /** The latest day; NONE if there is none, or one ahead of it is not told. */
        private int latestWithoutGap(int k) {
            gather(k);
            int latest = NONE;
            int told = 0;
            for (int day = 0; day < DAYS; day++) {
                if (manOn[day] != NONE) {
                    latest = day;
                    told++;
                }
            }
            return told == latest + 1 ? latest : NONE;
        }

        /** For each day, as known at k: the man of the log told last, and as bits those of all. */
        private void gather(int k) {
            Arrays.fill(manOn, NONE);
            Arrays.fill(allOn, 0);
            for (int number = 0; number < count; number++) {
                boolean untold = untoldAt[number] != NONE && untoldAt[number] <= k;
                if (toldAt[number] <= k && !untold) {
                    manOn[days[number]] = men[number];
                    allOn[days[number]] |= 1 << men[number];
                }
            }
        }
    }
}
