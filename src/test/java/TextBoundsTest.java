/** Promises 1 to 5: each sentence that names a boundary case of the tape or of a plan's text. */
public final class TextBoundsTest {
    private static final String WORDS = "lamps cycle fails start off on any role men holds rule when set hold say or "
            + "and not day visits";
    private static final String ROLE = "role a men 1 holds 0;";
    private static final String RULE = "rule a when 1 set 1 hold 1;";
    private static final String WHEN = ROLE + "rule a when ";
    private static final int[] FAR = {Integer.MIN_VALUE, Integer.MIN_VALUE + 1, -1401, -2, -1};
    private static final int BLANK = 0x20202020;

    private final Check check = new Check();

    public static void main(String[] args) {
        TextBoundsTest test = new TextBoundsTest();
        test.aNewObject();
        test.feeding();
        test.ending();
        test.planning();
        test.tellingFaults();
        test.tokens();
        test.settings();
        test.roles();
        test.rules();
        test.expressions();
        test.placesOfFaults();
        test.check.close("TextBoundsTest");
    }

    private void good(String text, int men) {
        LampYard yard = new LampYard();
        check.same("men of " + text, Yard.read(yard, text), men);
        check.same("no fault in " + text, yard.fault(0), 0);
        check.same("no place in " + text, yard.fault(1), -1);
    }

    private void faulty(String text, int fault, int place) {
        LampYard yard = new LampYard();
        check.same("plan " + text, Yard.read(yard, text), -1);
        check.same("fault of " + text, yard.fault(0), fault);
        check.same("place in " + text, yard.fault(1), place);
    }

    // ---- promise 1

    private void aNewObject() {
        check.sentence("1: An empty PLAN.");
        LampYard yard = new LampYard();
        for (int what = 0; what < 10; what++) {
            check.same("about " + what, yard.about(what), 0);
        }
        check.same("nobody to lead", yard.lead(0), -1);
        check.no("nobody to forget", yard.forget(0));
        check.same("nobody", yard.man(0, 0), -1);
        check.same("nobody's log", yard.log(0, 0), -1);
        for (int box = 0; box < 3; box++) {
            check.same("box " + box + " is empty", yard.back(box), -1);
        }
        check.same("one state", yard.states(0), 1);
        check.yes("one lamp", yard.begin(1));
        check.no("no second lamp", yard.begin(2));
        check.same("an empty text is like it", yard.plan(), 0);
    }

    // ---- promise 2

    private void feeding() {
        check.sentence("2: Twenty bytes come behind those on the TAPE, of each number the highest first");
        for (int at = 0; at < 20; at++) {
            LampYard yard = new LampYard();
            int[] numbers = {BLANK, BLANK, BLANK, BLANK, BLANK};
            numbers[at / 4] = BLANK ^ (' ' ^ '$') << 24 - 8 * (at % 4);
            yard.feed(BLANK, BLANK, BLANK, BLANK, BLANK);
            check.same("forty", yard.feed(numbers[0], numbers[1], numbers[2], numbers[3], numbers[4]), 40);
            yard.plan();
            check.same("byte " + at, yard.fault(1), 20 + at);
        }
        LampYard negative = new LampYard();
        negative.feed(BLANK, BLANK, BLANK, BLANK, 0x202020ff);
        negative.plan();
        check.same("a byte above 127", negative.fault(1), 19);

        check.sentence("2: how many there are");
        LampYard yard = new LampYard();
        for (int length = 20; length <= 1400; length += 20) {
            check.same("so many", yard.feed(BLANK, BLANK, BLANK, BLANK, BLANK), length);
            check.same("on the tape", yard.about(8), length);
        }

        check.sentence("2: NONE, and nothing comes, if there would be more than 1,400");
        check.same("1,420", yard.feed(-1, -1, -1, -1, -1), -1);
        check.same("1,400 still", yard.about(8), 1400);
        check.same("none of them came", yard.plan(), 0);
        for (int length = 1380; length <= 1382; length++) {
            LampYard filled = filled(length);
            boolean fits = length == 1380;
            check.same("behind " + length, filled.feed(-1, -1, -1, -1, -1), fits ? 1400 : -1);
            check.same("there are then", filled.about(8), fits ? 1400 : length);
            check.same("what came", filled.plan(), fits ? -1 : 0);
            check.same("its place", filled.fault(1), fits ? 1380 : -1);
        }
    }

    private static LampYard filled(int length) {
        LampYard yard = new LampYard();
        for (int i = 0; i < length; i += 20) {
            yard.feed(BLANK, BLANK, BLANK, BLANK, BLANK);
        }
        yard.end(length);
        return yard;
    }

    // ---- promise 3

    private void ending() {
        check.sentence("3: The TAPE has its first n bytes: n");
        for (int n = 40; n >= 0; n--) {
            LampYard yard = new LampYard();
            Yard.put(yard, " ".repeat(39) + "$");
            check.same("end", yard.end(n), n);
            check.same("so many are left", yard.about(8), n);
            check.same("the last one is left", yard.plan(), n == 40 ? -1 : 0);
        }
        LampYard behind = new LampYard();
        behind.feed(BLANK, BLANK, BLANK, BLANK, -1);
        behind.end(16);
        check.same("more comes behind what is left", behind.feed(BLANK, BLANK, BLANK, BLANK, BLANK), 36);
        check.same("what was cut is gone", behind.plan(), 0);

        check.sentence("3: NONE, doing nothing, if it has not so many, or n is below 0");
        LampYard yard = new LampYard();
        check.same("none are there", yard.end(1), -1);
        Yard.put(yard, "lamps 2;cycle 2;  $");
        for (int n : new int[] {20, 21, 1400, 1401, Integer.MAX_VALUE}) {
            check.same("not so many", yard.end(n), -1);
        }
        for (int n : FAR) {
            check.same("below 0", yard.end(n), -1);
        }
        check.same("all are there", yard.about(8), 19);
        check.same("all are read", yard.plan(), -1);
        check.same("to the last", yard.fault(1), 18);
    }

    // ---- promise 4

    private void planning() {
        check.sentence("4: The TAPE (empty then) is the PLAN");
        LampYard yard = new LampYard();
        check.same("read", Yard.read(yard, "lamps 2;role a men 2 holds 3;role b men 1 holds 4;" + RULE), 3);
        check.same("tape", yard.about(8), 0);
        check.same("men", yard.about(0), 3);
        check.same("roles", yard.about(1), 2);
        check.same("rules", yard.about(2), 1);
        check.same("units", yard.about(9), 3);
        check.same("nothing more is read", yard.plan(), 0);
        for (int what : new int[] {0, 1, 2, 9}) {
            check.same("it is empty then, about " + what, yard.about(what), 0);
        }
        check.no("nothing of it is left", yard.begin(2));

        nothingStays();
        manyPlans();

        check.sentence("4: LOGS are none, BOXES empty then");
        LampYard kept = busy();
        for (int box = 0; box < 3; box++) {
            kept.image(box);
        }
        check.same("another", Yard.read(kept, "lamps 2;role a men 2 holds 0;"), 2);
        check.same("logs", kept.about(6), 0);
        check.same("nothing is known", kept.last(0, 99999), -1);
        check.no("none to untell", kept.untell(0));
        for (int box = 0; box < 3; box++) {
            check.same("box " + box, kept.back(box), -1);
        }
        check.same("the first again", kept.log(1, 1), 0);
        check.same("told now", kept.last(1, kept.about(7) - 1), -1);

        check.sentence("4: begun as by begin(0)");
        LampYard begun = busy();
        check.same("over", begun.lead(2), 1);
        Yard.read(begun, "start on;role b men 3 holds 7;rule b when not lamps set 1 hold 9;");
        check.same("the lamp is off, though it starts on", begun.about(4), 0);
        check.same("day", begun.about(3), 0);
        check.same("not over", begun.about(5), 0);
        int[] due = {0, 7, 0, 0, 0};
        for (int man = 0; man < 3; man++) {
            for (int what = 0; what < 5; what++) {
                check.same("man " + man + ", " + what, begun.man(man, what), due[what]);
            }
        }

        check.sentence("4: how many MEN");
        good("", 0);
        good("lamps 2;", 0);
        good(ROLE, 1);
        good("role a men 6 holds 0;", 6);
        good("role a men 1 holds 0;role b men 2 holds 0;role c men 2 holds 0;role d men 1 holds 0;", 6);
        keepingAtAFault();
    }

    /** What a line is if it is not told, whatever the plans ahead have told, good ones or not. */
    private void nothingStays() {
        check.sentence("4: 1 if not told, (1), (never), (off): of each PLAN anew");
        String full = "lamps 2;cycle 12;fails 1;start any;role a men 3 holds 5;role b men 3 holds 6;"
                + "rule b when 1 set 1 hold 1;rule a when 1 set 1 hold 1 say;";
        LampYard yard = new LampYard();
        for (String ahead : new String[] {full, full + "$", full, full, full + "lamps 1;", "cycle 7;fails 0;role b"}) {
            Yard.read(yard, ahead);
            check.same("read", Yard.read(yard, "role a men 1 holds 2;rule a when 1 set lamps hold day+4;"), 1);
            check.same("roles", yard.about(1), 1);
            check.same("rules", yard.about(2), 1);
            check.same("units", yard.about(9), 4);
            check.no("one lamp", yard.begin(2));
            check.same("off", yard.said(0, 0, 0, 1), 1);
            check.same("not on", yard.said(1, 0, 0, 1), -1);
            check.yes("on", yard.begin(1));
            for (int day = 0; day < 3; day++) {
                check.same("nobody says", yard.lead(0), 0);
                check.same("cycle 1", yard.man(0, 1), 4);
                check.same("it does not fail", yard.about(4), 1);
            }
        }
    }

    /** As many large plans one behind another as 512 calls are enough for: each is read whole. */
    private void manyPlans() {
        check.sentence("4: The TAPE is the PLAN, however many there were");
        String units = "rule a when not not not not not not(0" + "+1".repeat(56) + ") set 1 hold ";
        LampYard yard = new LampYard();
        for (int i = 0; i < 20; i++) {
            check.same("plan " + i, Yard.read(yard, ROLE + units + (i + 3) + ";"), 1);
            check.same("its units", yard.about(9), 60);
            yard.lead(0);
            check.same("what it holds", yard.man(0, 1), i + 3);
            check.same("another " + i, Yard.read(yard, ROLE + "rule a when 1 set 1 hold " + (i + 1) + ";"), 1);
            yard.lead(0);
            check.same("what it holds", yard.man(0, 1), i + 1);
        }
    }

    private void keepingAtAFault() {
        check.sentence("4: NONE: a FAULT (the TAPE is empty then, too; all else stays)");
        for (String text : new String[] {"$", "lamps", "role a men 1 holds 0;role a", "role a men 7", "rule a",
            "lamps 1;cycle 5;fails 0;start any;role x men 6 holds 1;rule x when 1 set 1 hold 1 say;rule x"}) {
            LampYard yard = busy();
            yard.image(1);
            String before = Yard.seen(yard);
            check.same("a fault", Yard.read(yard, text), -1);
            check.same("tape", yard.about(8), 0);
            check.yes("it is told", yard.fault(0) > 0);
            check.same("all else", withoutFault(Yard.seen(yard)), withoutFault(before));
            check.same("the box stays", yard.back(1), 4);
            check.same("an empty box stays", yard.back(0), -1);
            check.same("states stay", yard.states(0), busy().states(0));
            check.same("goes on by the plan that was", yard.lead(2), 1);
            check.same("the tape is empty, as a plan", yard.plan(), 0);
        }
        LampYard over = busy();
        over.lead(2);
        Yard.read(over, "$");
        check.same("over stays", over.about(5), 1);
        LampYard fresh = new LampYard();
        Yard.read(fresh, "lamps 2;role a men 3 holds 1;;");
        check.same("nobody still", fresh.about(0), 0);
        check.no("one lamp still", fresh.begin(2));
    }

    /** Three men, four days gone, logs, a time: the counter says as he is led next. */
    private static LampYard busy() {
        LampYard yard = Yard.with("role o men 2 holds 0;role c men 1 holds 0;rule o when not lamps and holds<1 set 1 "
                + "hold holds+1;rule c when lamps and holds=1 set 0 hold holds+1 say;"
                + "rule c when lamps set 0 hold holds+1;");
        Yard.leads(yard, 0, 2, 2, 1);
        yard.log(0, 1);
        yard.later(3);
        yard.log(2, 0);
        yard.log(2, 2);
        return yard;
    }

    private static String withoutFault(String seen) {
        String[] parts = seen.split(" ");
        parts[parts.length - 5] = "";
        parts[parts.length - 4] = "";
        return String.join(" ", parts);
    }

    // ---- promise 5

    private void tellingFaults() {
        check.sentence("5: its FAULT (0: without; ahead of any, too), 1: its place (NONE)");
        LampYard yard = new LampYard();
        check.same("ahead of any", yard.fault(0), 0);
        check.same("ahead of any", yard.fault(1), -1);
        Yard.put(yard, "$");
        check.same("not read yet", yard.fault(0), 0);
        yard.plan();
        check.same("read", yard.fault(0), 1);
        check.same("its place", yard.fault(1), 0);
        Yard.put(yard, ROLE);
        check.same("not read yet", yard.fault(0), 1);
        check.same("without", yard.plan(), 1);
        check.same("without", yard.fault(0), 0);
        check.same("without", yard.fault(1), -1);

        check.sentence("5: Of the latest plan()");
        String[] texts = {"lamps 0;", " lamps x", "role a men 1 holds 0; role a", "  rule b", "lamps\t"};
        int[][] due = {{4, 6}, {2, 7}, {3, 27}, {5, 7}, {1, 5}};
        for (int i = 0; i < texts.length; i++) {
            Yard.read(yard, texts[i]);
            check.same("fault of " + texts[i], yard.fault(0), due[i][0]);
            check.same("place in " + texts[i], yard.fault(1), due[i][1]);
        }
        yard.begin(0);
        yard.end(0);
        check.same("it stays", yard.fault(0), 1);

        check.sentence("5: NONE for another what");
        for (int what : new int[] {-1, 2, 3, Integer.MAX_VALUE, Integer.MIN_VALUE}) {
            check.same("with a fault", yard.fault(what), -1);
            check.same("without one", new LampYard().fault(what), -1);
        }
    }

    // ---- the text: tokens

    private void tokens() {
        check.sentence("4: A PLAN is a text of at most 1,400 bytes");
        String rule = ROLE + RULE;
        good(" ".repeat(1400 - rule.length()) + rule, 1);
        good(rule + "\n".repeat(1400 - rule.length()), 1);
        faulty(" ".repeat(1399) + "$", 1, 1399);
        faulty(";".repeat(1400), 2, 0);

        check.sentence("4: TOKENS: words (a .. z, 8 at most), N (1 to 4 digits), signs ; ( ) < > = + - *; blanks (32, 10)");
        for (int sign = 0; sign < 256; sign++) {
            String text = String.valueOf((char) sign);
            if (sign == 32 || sign == 10) {
                good(text, 0);
            } else {
                boolean token = "abcdefghijklmnopqrstuvwxyz0123456789;()<>=+-*".indexOf(sign) >= 0;
                faulty(text, token ? 2 : 1, 0);
            }
        }

        check.sentence("4: words (a .. z, 8 at most); a longer word: no TOKEN, at its first byte");
        good("role abcdefgh men 1 holds 0;rule abcdefgh when 1 set 1 hold 1;", 1);
        good("role z men 1 holds 0;rule z when 1 set 1 hold 1;", 1);
        good("role zzzzzzzy men 1 holds 0;role zzzzzzzz men 1 holds 0;role zzzzzzz men 1 holds 0;", 3);
        faulty("role abcdefghi men 1 holds 0;", 1, 5);
        faulty("role " + "a".repeat(40), 1, 5);
        faulty("a".repeat(1400), 1, 0);

        check.sentence("4: N (1 to 4 digits); more digits: no TOKEN, at its first byte");
        good("lamps 2;", 0);
        good("lamps 0002;", 0);
        faulty("lamps 00002;", 1, 6);
        good(WHEN + "9999 set 9999 hold 9999;", 1);
        faulty(WHEN + "10000 set", 1, WHEN.length());
        faulty("9".repeat(1400), 1, 0);

        check.sentence("4: no letter directly behind an N: no TOKEN, at its first byte");
        faulty("lamps 2x;", 1, 6);
        faulty("lamps 2a", 1, 6);
        faulty("lamps 2z", 1, 6);
        faulty("role a men 1holds 0;", 1, 11);
        faulty(WHEN + "1 and 2or 3", 1, WHEN.length() + 6);
        good("role a men 1 holds 0;rule a when(1)set(1)hold(1)say;", 1);

        check.sentence("4: blanks (32, 10) part them or not");
        good("lamps2;cycle12;fails11;start on;role a men6 holds31;rule a when(1)set(0)hold(7);", 6);
        good("\nlamps \n 2\n;\n\nrole\na\nmen\n1\nholds\n0\n;\n", 1);
        good(WHEN + "1<2 and not(3>4)or(5)=6 set 1+2-3*4 hold(1);", 1);
        faulty("lamps\t2;", 1, 5);
        faulty("lamps 2;\r\n", 1, 8);

        check.sentence("4: each is as long as can be");
        faulty("startoff;", 2, 0);
        faulty("lampscycle;", 1, 0);
        faulty("start offon;", 2, 6);
        faulty("roles a men 1 holds 0;", 2, 0);
        faulty(WHEN + "notlamps set", 2, WHEN.length());
        faulty("lamps 1 2;", 2, 8);
        faulty("cycle 1 2;", 2, 8);
        good("cycle 12;", 0);

        check.sentence("4: Words that stand for themselves here are no NAMES");
        for (String word : WORDS.split(" ")) {
            faulty("role " + word + " men 1 holds 0;", 2, 5);
            faulty(ROLE + "rule " + word + " when 1 set 1 hold 1;", 2, ROLE.length() + 5);
        }
        for (String word : "e both one sum term unit line plan name n lamp mens hol holdsx an nota ands".split(" ")) {
            good("role " + word + " men 1 holds 0;rule " + word + " when 1 set 1 hold 1;", 1);
        }
    }

    // ---- the text: lines

    private void settings() {
        check.sentence("4: lamps 1, 2 (1 if not told)");
        numbers("lamps ", 1, 2);
        lampsOf("", 1);
        lampsOf("lamps 1;", 1);
        lampsOf("lamps 2;", 3);

        check.sentence("4: cycle 1 .. 12 (1)");
        numbers("cycle ", 1, 12);
        for (int cycle = 0; cycle <= 12; cycle++) {
            LampYard yard = Yard.with((cycle == 0 ? "" : "cycle " + cycle + ";")
                    + "role a men 1 holds 9;rule a when 1 set 0 hold day;");
            for (int day = 0; day < 26; day++) {
                yard.lead(0);
                check.same("cycle " + cycle + ", DAY " + day, yard.man(0, 1), cycle == 0 ? 0 : day % cycle);
            }
        }

        check.sentence("4: fails 0 .. 11 (never)");
        numbers("fails ", 0, 11);
        for (int fails = -1; fails <= 11; fails++) {
            LampYard yard = Yard.with("cycle 12;" + (fails < 0 ? "" : "fails " + fails + ";")
                    + "role a men 1 holds 9;rule a when 1 set 1 hold lamps;");
            yard.begin(1);
            for (int day = 0; day < 25; day++) {
                yard.lead(0);
                check.same("fails " + fails + ", DAY " + day, yard.man(0, 1), day % 12 == fails ? 0 : 1);
            }
        }

        check.sentence("4: start (off)");
        startsOf("", 1);
        startsOf("start off;", 1);
        startsOf("start on;", 2);
        startsOf("start any;", 3);
        startsOf("lamps 2;", 1);
        startsOf("lamps 2;start off;", 1);
        startsOf("lamps 2;start on;", 8);
        startsOf("start any;lamps 2;", 15);
        faulty("start ;", 2, 6);
        faulty("start 1;", 2, 6);
        faulty("start lamps;", 2, 6);

        check.sentence("4: each at most once (a line a second time: at the line's first word)");
        for (String line : new String[] {"lamps 2;", "cycle 1;", "fails 0;", "start off;"}) {
            good(line, 0);
            faulty(line + line, 2, line.length());
            faulty(line + line.substring(0, 5), 2, line.length());
            faulty(line + " " + line.substring(0, 5) + " $", 2, line.length() + 1);
            faulty(line + ROLE + line, 2, line.length() + ROLE.length());
        }
        good("start any;fails 11;cycle 12;lamps 2;", 0);
    }

    private void numbers(String line, int least, int most) {
        for (int number = 0; number <= 14; number++) {
            if (number >= least && number <= most) {
                good(line + number + ";", 0);
            } else {
                faulty(line + number + ";", 4, line.length());
            }
        }
        faulty(line + "9999", 4, line.length());
        faulty(line + ";", 2, line.length());
        faulty(line + "x;", 2, line.length());
        faulty(line, 2, line.length());
    }

    private void lampsOf(String line, int most) {
        LampYard yard = Yard.with(line);
        for (int lamps = -1; lamps <= 5; lamps++) {
            boolean can = lamps >= 0 && lamps <= most;
            check.same(line + " begin " + lamps, yard.begin(lamps) ? 1 : 0, can ? 1 : 0);
        }
    }

    private void startsOf(String line, int starts) {
        LampYard yard = Yard.with(line + ROLE);
        for (int lamps = -1; lamps <= 4; lamps++) {
            boolean is = lamps >= 0 && (starts >> lamps & 1) != 0;
            check.same(line + " from " + lamps, yard.said(lamps, 0, 0, 1), is ? 1 : -1);
        }
        check.same(line + " states", Yard.with(line).states(0), Integer.bitCount(starts));
    }

    private void roles() {
        check.sentence("4: at most 4 ROLES (a 5th ROLE: at the line's first word)");
        String four = "role a men 1 holds 0;role b men 1 holds 0;role c men 1 holds 0;role d men 1 holds 0;";
        good(four, 4);
        faulty(four + "role e men 1 holds 0;", 2, four.length());
        faulty(four + "role", 2, four.length());
        faulty(four + "role a", 2, four.length());
        faulty(four + RULE + " role $", 2, four.length() + RULE.length() + 1);

        check.sentence("4: men 1 .. 6 each and no more than 6 in all ROLES (men, too, if there are more than 6 then)");
        for (int men = 0; men <= 8; men++) {
            if (men >= 1 && men <= 6) {
                good("role a men " + men + " holds 0;", men);
            } else {
                faulty("role a men " + men + " holds 0;", 4, 11);
            }
            for (int more = 1; more <= 6 && men >= 1 && men <= 6; more++) {
                String text = "role a men " + men + " holds 0;role b men " + more + " holds 0;";
                if (men + more <= 6) {
                    good(text, men + more);
                } else {
                    faulty(text, 4, 32);
                }
            }
        }
        faulty("role a men 2 holds 0;role b men 3 holds 0;role c men 1 holds 0;role d men 1 holds 0;", 4, 74);
        faulty("role a men 9999", 4, 11);
        faulty("role a men 3 holds 0;role b men 0", 4, 32);
        faulty("role a men holds", 2, 11);

        check.sentence("4: holds 0 .. 31");
        for (int holds = 0; holds <= 33; holds++) {
            String text = "role a men 2 holds " + holds + ";";
            if (holds <= 31) {
                check.same("holds " + holds, Yard.with(text).man(1, 1), holds);
            } else {
                faulty(text, 4, 19);
            }
        }
        faulty("role a men 2 holds 9999", 4, 19);
        faulty("role a men 2 holds ;", 2, 19);

        check.sentence("4: MEN are numbered as their ROLES are told");
        LampYard yard = Yard.with("role d men 2 holds 4;role c men 1 holds 3;role a men 2 holds 2;role b men 1 holds 1;");
        int[] due = {0, 0, 1, 2, 2, 3};
        for (int man = 0; man < 6; man++) {
            check.same("role of " + man, yard.man(man, 0), due[man]);
            check.same("held by " + man, yard.man(man, 1), 4 - due[man]);
        }

        check.sentence("4: 3 a NAME told already");
        for (int again = 0; again < 3; again++) {
            String three = "role a men 1 holds 0;role bb men 1 holds 0;role cccccccc men 1 holds 0;";
            String name = new String[] {"a", "bb", "cccccccc"}[again];
            faulty(three + "role " + name + " men 9", 3, three.length() + 5);
        }
        good("role a men 1 holds 0;role aa men 1 holds 0;role aaaaaaaa men 1 holds 0;role aaaaaaab men 1 holds 0;", 4);
        good("role ab men 1 holds 0;role ba men 1 holds 0;", 2);
    }

    private void rules() {
        check.sentence("4: 16 rules (a 17th rule: at the line's first word)");
        String sixteen = ROLE + RULE.repeat(16);
        good(sixteen, 1);
        check.same("16 rules", Yard.with(sixteen).about(2), 16);
        faulty(sixteen + RULE, 2, sixteen.length());
        faulty(sixteen + "\nrule", 2, sixteen.length() + 1);
        faulty(sixteen + "rule nobody", 2, sixteen.length());
        faulty(sixteen + "rule $", 2, sixteen.length());
        LampYard yard = Yard.with(ROLE + "rule a when lamps set 0 hold 0;".repeat(15) + "rule a when 1 set 1 hold 16;");
        yard.lead(0);
        check.same("the 16th", yard.man(0, 1), 16);

        check.sentence("4: rules (of a ROLE told ahead); 5 a NAME that no ROLE has");
        faulty("rule a", 5, 5);
        faulty(RULE + ROLE, 5, 5);
        faulty(ROLE + "rule b when", 5, ROLE.length() + 5);
        faulty(ROLE + "rule aa when", 5, ROLE.length() + 5);
        faulty("role aa men 1 holds 0;rule a when", 5, 27);
        faulty("role abcdefgh men 1 holds 0;rule abcdefgg when", 5, 33);
        faulty(ROLE + RULE + "rule b when 1 set 1 hold 1;role b men 1 holds 0;", 5, ROLE.length() + RULE.length() + 5);
        good(ROLE + "role b men 1 holds 0;rule b when 1 set 1 hold 1;" + RULE, 2);

        check.sentence("4: rule NAME when e set e hold e [say]");
        good(ROLE + "rule a when 1 set 1 hold 1;", 1);
        good(ROLE + "rule a when 1 set 1 hold 1 say;", 1);
        faulty(ROLE + "rule a set 1", 2, ROLE.length() + 7);
        faulty(ROLE + "rule a when 1 hold 1", 2, ROLE.length() + 14);
        faulty(ROLE + "rule a when 1 set 1 say;", 2, ROLE.length() + 20);
        faulty(ROLE + "rule a when 1 set 1 hold 1 say say;", 2, ROLE.length() + 31);
        faulty(ROLE + "rule a when 1 set 1 hold say;", 2, ROLE.length() + 25);
        faulty(ROLE + "rule a when 1 set 1 hold 1 say", 2, ROLE.length() + 30);
    }

    // ---- the text: what a rule goes by

    private void expressions() {
        int at = WHEN.length();
        check.sentence("4: one = not one | sum [(< | > | =) sum]");
        for (String sign : new String[] {"<", ">", "="}) {
            good(WHEN + "1" + sign + "2 set 1 hold 1;", 1);
            faulty(WHEN + "1" + sign + "2" + sign + "3", 2, at + 3);
            faulty(WHEN + sign + "2", 2, at);
            faulty(WHEN + "1" + sign + "not 2", 2, at + 2);
            faulty(WHEN + "1" + sign + sign + "2", 2, at + 2);
        }
        good(WHEN + "(1<2)<(2<3) set 1 hold 1;", 1);
        faulty(WHEN + "not", 2, at + 3);
        faulty(WHEN + "not and", 2, at + 4);

        check.sentence("4: e = both {or both}.  both = one {and one}.  sum = term {(+ | -) term}.  term = unit {* unit}");
        for (String sign : new String[] {" or ", " and ", "+", "-", "*"}) {
            good(WHEN + "1" + sign + "2" + sign + "3 set 1 hold 1;", 1);
            faulty(WHEN + "1" + sign + "set", 2, at + 1 + sign.length());
            faulty(WHEN + sign.trim() + " 1", 2, at);
            faulty(WHEN + "1" + sign + sign.trim() + " 1", 2, at + 1 + sign.length());
        }
        good(WHEN + "1 and not 2 or not not 3 set 1 hold 1;", 1);
        faulty(WHEN + "1*not 2", 2, at + 2);

        check.sentence("4: unit = N | lamps | holds | day | visits | men | ( e )");
        for (String word : (WORDS + " a b").split(" ")) {
            boolean unit = " lamps holds day visits men ".contains(" " + word + " ");
            String text = WHEN + (word.equals("not") ? "1+" : "") + word + " set 1 hold 1;";
            if (unit) {
                good(text, 1);
            } else {
                faulty(text, 2, at + (word.equals("not") ? 2 : 0));
            }
        }
        good(WHEN + "(1 or 2) set (1<2) hold (not 1);", 1);
        faulty(WHEN + "() set", 2, at + 1);
        faulty(WHEN + "(1 set", 2, at + 3);
        faulty(WHEN + "1) set", 2, at + 1);
        faulty(WHEN + "1 2 set", 2, at + 2);
        faulty(WHEN + "(1)(2) set", 2, at + 3);
        unitsInAll();
        within();
    }

    private void unitsInAll() {
        check.sentence("4: 60 units in all (a 61st unit: at its first TOKEN)");
        String ahead = WHEN + "1" + "+1".repeat(56) + " set 1 hold ";
        check.same("59", Yard.with(ahead + "1;").about(9), 59);
        for (String last : new String[] {"1", "lamps", "holds", "day", "visits", "men"}) {
            check.same("60", Yard.with(ahead + "1+" + last + ";").about(9), 60);
            faulty(ahead + "1+1+ " + last + ";", 2, ahead.length() + 5);
            faulty(ahead + "(1)*" + last, 2, ahead.length() + 4);
        }
        check.same("a unit ( e ) is one more", Yard.with(ahead + "(1);").about(9), 60);
        faulty(ahead + "((1));", 2, ahead.length() + 2);
        faulty(ahead + "1+(1);", 2, ahead.length() + 3);
        faulty(ahead + "1+1+(1);", 2, ahead.length() + 4);
        faulty(ahead + "1+1+(", 2, ahead.length() + 4);
        check.same("a not is none", Yard.with(ahead + "not not 1;").about(9), 59);
        String rules = ahead + "1;" + "rule a when ";
        faulty(rules + "1 set 1", 2, rules.length() + 6);
        String spread = ROLE + "rule a when 1+1 set 1 hold 1;".repeat(15);
        check.same("of fifteen rules", Yard.with(spread).about(9), 60);
        faulty(spread + "rule a when 1", 2, spread.length() + 12);
    }

    private void within() {
        int at = WHEN.length();
        check.sentence("4: a unit ( e ), or a one behind not, within 6 others at most "
                + "(what is within 7 others: at its first TOKEN, or the not)");
        // Each way to be within others: by bits, 1 for a bracket, 0 for a not.
        for (int ways = 0; ways < 128; ways++) {
            StringBuilder open = new StringBuilder();
            StringBuilder close = new StringBuilder();
            for (int i = 0; i < 7; i++) {
                boolean bracket = (ways >> i & 1) != 0;
                open.append(bracket ? "(" : "not ");
                close.append(bracket ? ")" : "");
            }
            good(WHEN + open + "1" + close + " set 1 hold 1;", 1);
            faulty(WHEN + open + "(1)" + close + " set 1 hold 1;", 2, at + open.length());
            faulty(WHEN + open + "not 1" + close + " set 1 hold 1;", 2, at + open.length());
            // A not ends with its one, a bracket does not.
            if ((ways & 64) != 0) {
                faulty(WHEN + open + "1 and not 1", 2, at + open.length() + 6);
            }
        }
        String seven = "(".repeat(7) + "lamps" + ")".repeat(7);
        good(WHEN + seven + " set " + seven + " hold " + seven + ";", 1);
        good(WHEN + seven + "+" + seven + "*" + seven + " set 1 hold 1;", 1);
        good(WHEN + "not ".repeat(7) + "1 and " + "not ".repeat(7) + "1 set 1 hold 1;", 1);
        faulty(WHEN + "1 set 1 hold (" + seven + ");", 2, at + "1 set 1 hold (((((((".length());
        faulty(WHEN + "not ".repeat(8), 2, at + 28);
        faulty(WHEN + "(".repeat(8), 2, at + 7);
    }

    // ---- faults: which one

    private void placesOfFaults() {
        check.sentence("5: FAULTS, the first by its place (bytes from 0)");
        faulty("$lamps 3;", 1, 0);
        faulty("lamps 3; $", 4, 6);
        faulty("x lamps 3; $", 2, 0);
        faulty("role a men 7 holds 32;rule b", 4, 11);
        faulty("role a men 6 holds 32;rule b", 4, 19);
        faulty("role a men 1 holds 0;role a men 9", 3, 26);
        faulty("role a men 1 holds 0;rule b when 12345", 5, 26);
        faulty("role a men 1 holds 0;rule a when 12345 say", 1, 33);
        faulty("role a men 1 holds 0;rule a when say 12345", 2, 33);
        faulty("  \n lamps \n 3", 4, 12);

        check.sentence("5: the end: the text's length");
        String whole = "lamps 2 ; cycle 3 ; fails 1 ; start any ; role a men 1 holds 0 ; "
                + "rule a when not lamps < ( 1 + day ) set 1 hold 1 say ;";
        for (int end = 1; end < whole.length(); end++) {
            if (whole.charAt(end) == ' ') {
                String text = whole.substring(0, end);
                if (text.endsWith(";")) {
                    continue;
                }
                faulty(text, 2, end);
                faulty(text + " \n ", 2, end + 3);
            }
        }
        good(whole, 1);

        check.sentence("5: at one place the least");
        faulty("$", 1, 0);
        faulty("lamps 1 $", 1, 8);
        faulty("lamps 33333;", 1, 6);
        faulty("lamps 3x;", 1, 6);
        faulty("role a men 7x", 1, 11);
        faulty("role a men 1 holds 0;role aaaaaaaaa", 1, 26);
        faulty("rule aaaaaaaaa", 1, 5);
        faulty("rule 1", 2, 5);
        String sixty = WHEN + "1" + "+1".repeat(59) + "+";
        faulty(sixty + "1", 2, sixty.length());
        faulty(sixty + "1x", 1, sixty.length());
        faulty(sixty + "$", 1, sixty.length());

        check.sentence("5: 4 a number that can't be");
        faulty("lamps 0", 4, 6);
        faulty("lamps 3", 4, 6);
        faulty("cycle 0", 4, 6);
        faulty("cycle 13", 4, 6);
        faulty("fails 12", 4, 6);
        faulty("role a men 0", 4, 11);
        faulty("role a men 7", 4, 11);
        faulty("role a men 1 holds 32", 4, 19);

        check.sentence("5: 2 one that can't stand there");
        for (String line : new String[] {"lamps 1", "cycle 1", "fails 1", "start on", "role a men 1 holds 0"}) {
            faulty(line, 2, line.length());
            faulty(line + " say;", 2, line.length() + 1);
            faulty(line + ";;", 2, line.length() + 1);
        }
        for (String first : "; ( 1 a off on any men holds when set hold say or and not day visits".split(" ")) {
            faulty("lamps 1;" + first, 2, 8);
        }
        faulty("role a holds 0 men 1;", 2, 7);
        faulty("role men 1 holds 0;", 2, 5);
        faulty("role a men 1;", 2, 12);
        faulty("role a men 1 hold 0;", 2, 13);
    }
}
