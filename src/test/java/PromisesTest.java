/** Each promise of the document in its order: ordinary calls, the edges it names, wrong inputs. */
public final class PromisesTest {
    /** Two who put the lamp on once, one who counts to two and says. */
    private static final String COUNTING = "role other men 2 holds 0;role count men 1 holds 0;"
            + "rule other when not lamps and holds<1 set 1 hold holds+1;"
            + "rule count when lamps and holds=men-2 set 0 hold holds+1 say;"
            + "rule count when lamps set 0 hold holds+1;";
    private static final String SIMPLE = "role a men 1 holds 0;rule a when ";

    private final Check check = new Check();

    public static void main(String[] args) {
        PromisesTest test = new PromisesTest();
        test.newObject();
        test.feed();
        test.end();
        test.plan();
        test.planEdges();
        test.fault();
        test.faultLimits();
        test.values();
        test.begin();
        test.lead();
        test.fails();
        test.forget();
        test.dark();
        test.man();
        test.states();
        test.right();
        test.shown();
        test.soonest();
        test.ends();
        test.idle();
        test.most();
        test.bears();
        test.spent();
        test.said();
        test.all();
        test.guess();
        test.mean();
        test.counter();
        test.fair();
        test.log();
        test.untell();
        test.later();
        test.logged();
        test.last();
        test.agrees();
        test.images();
        test.about();
        test.check.close("PromisesTest");
    }

    private void newObject() {
        LampYard yard = new LampYard();
        for (int what = 0; what < 10; what++) {
            check.same("1: about " + what, yard.about(what), 0);
        }
        check.same("1: states", yard.states(0), 1);
        check.same("1: fault", yard.fault(0), 0);
        check.yes("1: one lamp", yard.begin(1));
        check.no("1: no second lamp", yard.begin(2));
        check.same("1: nobody", yard.man(0, 0), -1);
    }

    private void feed() {
        LampYard yard = new LampYard();
        check.same("2: first", yard.feed(0, 0, 0, 0, 0), 20);
        for (int i = 2; i <= 70; i++) {
            check.same("2: feed " + i, yard.feed(0x20202020, 0x20202020, 0x20202020, 0x20202020, 0x20202020), 20 * i);
        }
        check.same("2: too many", yard.feed(1, 2, 3, 4, 5), -1);
        check.same("2: nothing came", yard.about(8), 1400);
        yard.end(1381);
        check.same("2: one too many", yard.feed(1, 2, 3, 4, 5), -1);
        check.same("2: still", yard.about(8), 1381);
        yard.end(1380);
        check.same("2: just enough", yard.feed(1, 2, 3, 4, 5), 1400);
        // "role", " abc", "def ", "men ", "2 ho": of each number the highest byte first.
        yard.end(0);
        yard.feed(0x726f6c65, 0x20616263, 0x64656620, 0x6d656e20, 0x3220686f);
        yard.feed(0x6c647320, 0x33313b00, 0, 0, 0);
        yard.end(27);
        check.same("2: order of bytes", yard.plan(), 2);
        check.same("2: held", yard.man(1, 1), 31);
        yard.feed(0x80ffffff, 0, 0, 0, 0);
        check.same("2: bytes above 127", yard.plan(), -1);
        check.same("2: are no tokens", yard.fault(0), 1);
    }

    private void end() {
        LampYard yard = new LampYard();
        check.same("3: empty", yard.end(0), 0);
        check.same("3: not so many", yard.end(1), -1);
        check.same("3: below 0", yard.end(-1), -1);
        yard.feed(0, 0, 0, 0, 0);
        check.same("3: all", yard.end(20), 20);
        check.same("3: one too many", yard.end(21), -1);
        check.same("3: as before", yard.about(8), 20);
        check.same("3: least number", yard.end(Integer.MIN_VALUE), -1);
        check.same("3: fewer", yard.end(7), 7);
        check.same("3: on the tape", yard.about(8), 7);
        check.same("3: gone", yard.end(8), -1);
        check.same("3: goes on behind them", yard.feed(0, 0, 0, 0, 0), 27);
    }

    private void plan() {
        LampYard yard = new LampYard();
        check.same("4: empty", yard.plan(), 0);
        check.same("4: men", Yard.read(yard, COUNTING), 3);
        check.same("4: tape is empty", yard.about(8), 0);
        yard.lead(0);
        yard.log(4, 1);
        yard.later(9);
        for (int box = 0; box < 3; box++) {
            yard.image(box);
        }
        check.same("4: a fault", Yard.read(yard, "role"), -1);
        check.same("4: tape is empty behind a fault", yard.about(8), 0);
        check.same("4: day stays", yard.about(3), 1);
        check.same("4: lamps stay", yard.about(4), 1);
        check.same("4: men stay", yard.about(0), 3);
        check.same("4: rules stay", yard.about(2), 3);
        check.same("4: logs stay", yard.about(6), 1);
        for (int box = 0; box < 3; box++) {
            check.same("4: boxes stay", yard.back(box), 1);
        }
        check.same("4: right stays", yard.right(), 1);
        check.same("4: another", Yard.read(yard, "start on;lamps 2;role a men 4 holds 9;"), 4);
        check.same("4: begun", yard.about(3), 0);
        check.same("4: begun with 0 even so", yard.about(4), 0);
        check.same("4: no logs", yard.about(6), 0);
        for (int box = 0; box < 3; box++) {
            check.same("4: boxes are empty", yard.back(box), -1);
        }
        check.same("4: time goes on", yard.about(7), 9);
        check.same("4: another's states", yard.states(0), 256);
        check.same("4: logs begin again", yard.log(0, 0), 0);
        check.same("4: empty again", yard.plan(), 0);
        check.same("4: nobody", yard.about(0), 0);
        check.same("4: one state", yard.states(0), 1);
        yard.begin(0);
        Yard.read(yard, SIMPLE + "1 set 0 hold 0 say;");
        check.same("4: says at once", yard.lead(0), 1);
        Yard.read(yard, "");
        check.same("4: not over any more", yard.about(5), 0);
    }

    private void planEdges() {
        LampYard yard = new LampYard();
        check.same("4: blanks", Yard.read(yard, " \n "), 0);
        check.same("4: few blanks", Yard.read(yard, "lamps2;role a men1holds0;"), -1);
        check.same("4: no letter behind a number", yard.fault(1), 17);
        check.same("4: few blanks", Yard.read(yard, "lamps2;cycle12;fails11;start\nany;role a men1 holds31;"
                + "rule a when(lamps)set 1*2hold 3+4-5;"), -1);
        check.same("4: no letter behind a number", yard.fault(1), 77);
        check.same("4: few blanks", Yard.read(yard, "lamps2;cycle12;fails11;start\nany;role a men1 holds31;"
                + "rule a when(lamps)set(2)hold(3)say;"), 1);
        check.same("4: six units", yard.about(9), 6);
        check.same("4: six men", Yard.read(yard, "role a men 1 holds 0;role b men 2 holds 0;role c men 2 holds 0;"
                + "role d men 1 holds 0;"), 6);
        check.same("4: roles in order", yard.man(5, 0), 3);
        check.same("4: roles in order", yard.man(2, 0), 1);
        check.same("4: a name of eight letters", Yard.read(yard, "role abcdefgh men 6 holds 0;"
                + "rule abcdefgh when 9999 set 0000 hold 0001;"), 6);
        check.same("4: names like other words", Yard.read(yard, "role lamp men 1 holds 0;role sets men 1 holds 0;"
                + "role e men 1 holds 0;role plan men 1 holds 0;"), 4);
        StringBuilder longest = new StringBuilder(SIMPLE + "1 set 1 hold 1;");
        while (longest.length() < 1400) {
            longest.append(' ');
        }
        check.same("4: 1400 bytes", Yard.read(yard, longest.toString()), 1);
    }

    private void fault() {
        LampYard yard = new LampYard();
        check.same("5: ahead of any", yard.fault(0), 0);
        check.same("5: ahead of any", yard.fault(1), -1);
        check.same("5: another what", yard.fault(2), -1);
        check.same("5: another what", yard.fault(-1), -1);
        faulty(yard, "$", 1, 0);
        check.same("5: another what with a fault", yard.fault(2), -1);
        Yard.read(yard, "");
        check.same("5: without", yard.fault(0), 0);
        check.same("5: without", yard.fault(1), -1);
        faulty(yard, "lamps 1; $", 1, 9);
        faulty(yard, "role abcdefghi men", 1, 5);
        faulty(yard, "lamps 00001;", 1, 6);
        faulty(yard, "lamps 1x;", 1, 6);
        faulty(yard, "lamps 9x;", 1, 6);
        faulty(yard, "Lamps 1;", 1, 0);
        faulty(yard, "lamps\t1;", 1, 5);
        faulty(yard, "lamps", 2, 5);
        faulty(yard, "lamps  \n", 2, 8);
        faulty(yard, "lamps 1", 2, 7);
        faulty(yard, "lamps x;", 2, 6);
        faulty(yard, "lamps 0;", 4, 6);
        faulty(yard, "lamps 3;", 4, 6);
        faulty(yard, "cycle 0;", 4, 6);
        faulty(yard, "cycle 13;", 4, 6);
        faulty(yard, "fails 12;", 4, 6);
        faulty(yard, "start off on;", 2, 10);
        faulty(yard, "start maybe;", 2, 6);
        faulty(yard, "hello;", 2, 0);
        faulty(yard, ";", 2, 0);
        faulty(yard, "lamps 1;cycle 1;lamps 1;", 2, 16);
        faulty(yard, "cycle 1;cycle 13;", 2, 8);
        faulty(yard, "fails 1;fails 1;", 2, 8);
        faulty(yard, "start on;start on;", 2, 9);
        faulty(yard, "role say men 1 holds 0;", 2, 5);
        faulty(yard, "role 5 men 1 holds 0;", 2, 5);
        faulty(yard, "role a men 0 holds 0;", 4, 11);
        faulty(yard, "role a men 7 holds 0;", 4, 11);
        faulty(yard, "role a men 6 holds 32;", 4, 19);
        faulty(yard, "role a hold 6 holds 32;", 2, 7);
        faulty(yard, "role a men 6 hold 3;", 2, 13);
        faulty(yard, "role a men 6 holds 3 say;", 2, 21);
        faulty(yard, "role a men 3 holds 0;role b men 4 holds 0;", 4, 32);
        faulty(yard, "role a men 1 holds 0;role a men 1 holds 0;", 3, 26);
        faulty(yard, "rule a when 1 set 1 hold 1;role a men 1 holds 0;", 5, 5);
        faulty(yard, "role a men 1 holds 0;rule b when", 5, 26);
        faulty(yard, "role a men 1 holds 0;rule men when", 2, 26);
        faulty(yard, SIMPLE + "set", 2, 33);
        faulty(yard, SIMPLE + "1 hold", 2, 35);
        faulty(yard, SIMPLE + "1 set 1 hold 1 say say;", 2, 52);
        faulty(yard, SIMPLE + "1 set 1 hold 1", 2, 47);
        faulty(yard, SIMPLE + "1<2>3 set", 2, 36);
        faulty(yard, SIMPLE + "1+not 2 set", 2, 35);
        faulty(yard, SIMPLE + "-1 set", 2, 33);
        faulty(yard, SIMPLE + "1 2 set", 2, 35);
        faulty(yard, SIMPLE + "(1 set", 2, 36);
        faulty(yard, SIMPLE + "() set", 2, 34);
        faulty(yard, SIMPLE + "1) set", 2, 34);
        faulty(yard, SIMPLE + "a set", 2, 33);
        faulty(yard, SIMPLE + "10000 set", 1, 33);
    }

    private void faultLimits() {
        LampYard yard = new LampYard();
        String four = "role a men 1 holds 0;role b men 1 holds 0;role c men 1 holds 0;role d men 1 holds 0;";
        faulty(yard, four + "role a men", 2, four.length());
        StringBuilder rules = new StringBuilder("role a men 1 holds 0;");
        for (int i = 0; i < 16; i++) {
            rules.append("rule a when 1 set 1 hold 1;");
        }
        check.same("5: 16 rules", Yard.read(yard, rules.toString()), 1);
        check.same("5: 48 units", yard.about(9), 48);
        faulty(yard, rules + "rule zz", 2, rules.length());

        // 57 units behind when: a bracket is one, too.
        String sum = SIMPLE + "(1)" + "+1".repeat(55) + " set 1 hold ";
        check.same("5: 59 units", Yard.read(yard, sum + "1;"), 1);
        check.same("5: 59 units", yard.about(9), 59);
        check.same("5: 60 units", Yard.read(yard, sum + "1+1;"), 1);
        check.same("5: 60 units", Yard.read(yard, sum + "(1);"), 1);
        check.same("5: 60 units", yard.about(9), 60);
        faulty(yard, sum + "1+1-1;", 2, sum.length() + 4);
        faulty(yard, sum + "1+(1);", 2, sum.length() + 3);
        faulty(yard, sum + "1+1-(1);", 2, sum.length() + 4);
        faulty(yard, sum + "1;rule a when 1 set 1 hold 1;", 2, sum.length() + 20);

        String seven = "(((((((1)))))))";
        check.same("5: within six others", Yard.read(yard, SIMPLE + seven + " set 1 hold 1;"), 1);
        check.same("5: eight units", yard.about(9), 10);
        faulty(yard, SIMPLE + "(" + seven + ") set 1 hold 1;", 2, 40);
        check.same("5: seven nots", Yard.read(yard, SIMPLE + "not ".repeat(7) + "1 set 1 hold 1;"), 1);
        faulty(yard, SIMPLE + "not ".repeat(8) + "1 set 1 hold 1;", 2, 33 + 28);
        faulty(yard, SIMPLE + "not ".repeat(7) + "(1) set 1 hold 1;", 2, 33 + 28);
        faulty(yard, SIMPLE + "not(".repeat(3) + "not not 1", 2, 33 + 12 + 4);
        check.same("5: side by side", Yard.read(yard, SIMPLE + seven + "+" + seven + " set 1 hold 1;"), 1);
    }

    private void faulty(LampYard yard, String text, int kind, int place) {
        check.same("5: plan " + text, Yard.read(yard, text), -1);
        check.same("5: fault of " + text, yard.fault(0), kind);
        check.same("5: place in " + text, yard.fault(1), place);
    }

    /** What an e is worth: seen by what a man holds then (numbers 0 .. 31). */
    private void values() {
        value("5", 5);
        value("2+3*4", 14);
        value("20-3-4", 13);
        value("(2+3)*4", 20);
        value("0-1", 0);
        value("9999", 31);
        value("9999*9999*9999*9999*9999*9999+20", clamped((int) power(9999, 6) + 20));
        value("3*(2<3)", 3);
        value("3*(3<3)", 0);
        value("3*(4>3)", 3);
        value("3*(4=4)", 3);
        value("7 or 0", 1);
        value("0 or 0", 0);
        value("7 and 8", 1);
        value("7 and 0", 0);
        value("1 or 1 and 0", 1);
        value("not 7", 0);
        value("not 0", 1);
        value("not not 7", 1);
        value("not 1=2", 1);
        value("not 0 and 0", 0);
        value("5*(1 or 0)+2", 7);
        value("1+1=2", 1);
        value("0-1<0", 1);
        value("men", 1);
        value("holds+lamps+day+visits", 6);
    }

    private void value(String e, int due) {
        LampYard yard = Yard.with("cycle 3;role a men 1 holds 6;rule a when 1 set 0 hold " + e + ";");
        yard.lead(0);
        check.same("7: hold " + e, yard.man(0, 1), due);
    }

    private static int clamped(int value) {
        return Math.max(0, Math.min(31, value));
    }

    private static int power(int base, int exponent) {
        int product = 1;
        for (int i = 0; i < exponent; i++) {
            product *= base;
        }
        return product;
    }

    private void begin() {
        LampYard yard = Yard.with("lamps 2;start on;role a men 2 holds 4;rule a when 1 set lamps+1 hold holds+1;");
        yard.lead(0);
        yard.lead(1);
        check.yes("6: begin", yard.begin(3));
        check.same("6: lamps", yard.about(4), 3);
        check.same("6: day", yard.about(3), 0);
        for (int man = 0; man < 2; man++) {
            check.same("6: holds", yard.man(man, 1), 4);
            check.same("6: visits", yard.man(man, 2), 0);
            check.same("6: been", yard.man(man, 3), 0);
            check.same("6: burden", yard.man(man, 4), 0);
        }
        check.yes("6: lamps that are no start", yard.begin(2));
        yard.lead(0);
        check.no("6: lamps that can't be", yard.begin(4));
        check.no("6: lamps that can't be", yard.begin(-1));
        check.same("6: nothing done", yard.about(3), 1);
        check.same("6: nothing done", yard.about(4), 3);
        LampYard over = Yard.with(SIMPLE + "1 set 0 hold 0 say;");
        over.lead(0);
        check.yes("6: over, begun again", over.begin(0));
        check.same("6: not over", over.about(5), 0);
        check.same("6: can be led", over.lead(0), 1);
    }

    private void lead() {
        LampYard yard = Yard.with(COUNTING);
        check.same("7: none such", yard.lead(3), -1);
        check.same("7: none such", yard.lead(-1), -1);
        check.same("7: no day is over", yard.about(3), 0);
        check.same("7: goes on", Yard.leads(yard, 2, 0, 0, 2, 1, 2, 2), "0 0 0 0 0 1 -1");
        check.same("7: days", yard.about(3), 6);
        LampYard early = Yard.with("role a men 2 holds 0;rule a when visits=1 set 0 hold 7 say;");
        check.same("7: wrong", Yard.leads(early, 1, 1, 0), "0 2 -1");
        check.same("7: holds as he says", early.man(1, 1), 7);
        check.same("7: over", early.about(5), 1);
        LampYard order = Yard.with("lamps 2;role a men 1 holds 0;role b men 1 holds 0;rule b when 1 set 2 hold 9;"
                + "rule a when lamps=0 set 1+lamps hold lamps+20;rule a when 1 set 7 hold 0-5;rule a when 1 set 0 hold 0;");
        order.lead(0);
        check.same("7: his role's first", order.about(4), 1);
        check.same("7: by what was there", order.man(0, 1), 20);
        order.lead(0);
        check.same("7: his role's second, lowest bits", order.about(4), 3);
        check.same("7: nearest", order.man(0, 1), 0);
        LampYard none = Yard.with("start on;role a men 1 holds 3;rule a when 0 set 0 hold 0 say;");
        none.begin(1);
        check.same("7: no rule", Yard.leads(none, 0, 0, 0, 0, 0), "0 0 0 0 0");
        check.same("7: nothing changes", none.about(4), 1);
        check.same("7: nothing changes", none.man(0, 1), 3);
        check.same("7: visits are 3 at most", none.man(0, 2), 3);
        LampYard minus = Yard.with("lamps 1;role a men 1 holds 3;rule a when 0-1 set 0-1 hold 3;");
        minus.lead(0);
        check.same("7: lowest bit of -1", minus.about(4), 1);
        LampYard days = Yard.with("role a men 1 holds 0;");
        for (int day = 0; day < 10000; day++) {
            days.lead(0);
        }
        check.same("7: 10,000 days", days.about(3), 10000);
        check.same("7: no more", days.lead(0), -1);
        check.same("7: no more", days.about(3), 10000);
    }

    private void fails() {
        LampYard yard = Yard.with("cycle 3;fails 1;role a men 1 holds 0;rule a when lamps set 1 hold day+10;"
                + "rule a when 1 set 1 hold day+20;");
        yard.begin(1);
        int[] due = {10, 21, 12, 10, 21, 12, 10};
        for (int day = 0; day < due.length; day++) {
            yard.lead(0);
            check.same("7: holds behind day " + day, yard.man(0, 1), due[day]);
        }
        check.same("10: changed as he sees them", yard.man(0, 4), 2);
        LampYard never = Yard.with("cycle 2;fails 5;role a men 1 holds 0;rule a when lamps set 1 hold 1;");
        never.begin(1);
        never.lead(0);
        never.lead(0);
        check.same("7: a day that never is", never.about(4), 1);
        LampYard always = Yard.with("fails 0;role a men 1 holds 0;");
        always.begin(1);
        always.lead(0);
        check.same("7: off, with no rule", always.about(4), 0);
        check.same("10: it was not him", always.man(0, 4), 0);
        check.same("18: it was not him", always.idle(), 1);
    }

    private void forget() {
        LampYard yard = Yard.with("role a men 1 holds 5;role b men 1 holds 6;rule a when 1 set 1 hold holds+1;"
                + "rule b when 1 set 0 hold 0 say;");
        yard.lead(0);
        yard.lead(0);
        check.no("8: none such", yard.forget(2));
        check.no("8: none such", yard.forget(-1));
        check.yes("8: forgets", yard.forget(0));
        check.same("8: holds as at first", yard.man(0, 1), 5);
        check.same("8: knows of no visits", yard.man(0, 2), 0);
        check.same("8: has been", yard.man(0, 3), 1);
        check.same("8: burden stays", yard.man(0, 4), 1);
        check.same("8: lamps stay", yard.about(4), 1);
        check.same("8: day stays", yard.about(3), 2);
        yard.lead(0);
        check.same("8: counts anew", yard.man(0, 2), 1);
        check.same("8: right all the same", yard.lead(1), 1);
        check.no("8: over", yard.forget(0));
        check.same("8: nothing done", yard.man(0, 1), 6);
    }

    private void dark() {
        LampYard yard = Yard.with("lamps 2;role a men 1 holds 0;rule a when visits set 1 hold 0 say;");
        yard.begin(2);
        check.same("9: what they were", yard.dark(1), 2);
        check.same("9: now", yard.about(4), 1);
        check.same("9: what they were", yard.dark(3), 1);
        check.same("9: can't be", yard.dark(4), -1);
        check.same("9: can't be", yard.dark(-1), -1);
        check.same("9: nothing done", yard.about(4), 3);
        check.same("9: no day", yard.about(3), 0);
        yard.lead(0);
        yard.lead(0);
        check.same("9: over", yard.dark(0), -1);
        check.same("9: nothing done", yard.about(4), 1);
        LampYard one = Yard.with("role a men 1 holds 0;");
        check.same("9: a lamp that is not there", one.dark(2), -1);
        check.same("9: nobody there", new LampYard().dark(1), 0);
    }

    private void man() {
        LampYard yard = Yard.with(COUNTING);
        Yard.leads(yard, 0, 2, 1);
        int[][] due = {{0, 1, 1, 1, 1}, {0, 1, 1, 1, 1}, {1, 1, 1, 1, 1}};
        for (int man = 0; man < 3; man++) {
            for (int what = 0; what < 5; what++) {
                check.same("10: man " + man + ", " + what, yard.man(man, what), due[man][what]);
            }
            check.same("10: another what", yard.man(man, 5), -1);
            check.same("10: another what", yard.man(man, -1), -1);
        }
        check.same("10: none such", yard.man(3, 0), -1);
        check.same("10: none such", yard.man(-1, 0), -1);
        yard.begin(0);
        check.same("10: not been", yard.man(0, 3), 0);
        yard.lead(2);
        check.same("10: no burden", yard.man(2, 4), 0);
    }

    private void states() {
        LampYard yard = Yard.with("role a men 1 holds 0;");
        check.same("11: visits 0 to 3", yard.states(0), 4);
        check.same("11: nobody says", yard.states(1), 0);
        check.same("11: another what", yard.states(3), -1);
        check.same("11: another what", yard.states(-1), -1);
        LampYard cycle = Yard.with("cycle 3;role a men 1 holds 0;");
        check.same("11: days, then visits stay", cycle.states(0), 6);
        LampYard any = Yard.with("lamps 2;start any;role a men 1 holds 0;");
        check.same("11: four starts", any.states(0), 16);
        check.same("11: all on", Yard.with("lamps 2;start on;role a men 1 holds 0;rule a when lamps=3 set 3 hold 1;")
                .most(0), 1);
        LampYard fails = Yard.with("cycle 2;fails 0;start any;role a men 1 holds 0;");
        check.same("11: lamps as the day ahead left them", fails.states(0), 6);
        LampYard saying = Yard.with("role a men 2 holds 0;rule a when visits=1 set 0 hold 0 say;");
        check.same("11: nobody behind who says", saying.states(0), 4);
        check.same("11: rightly", saying.states(1), 2);
        check.same("11: wrongly", saying.states(2), 2);
        check.same("11: no men, four starts", Yard.with("lamps 2;start any;").states(0), 4);
    }

    private void right() {
        check.same("12: counts to two", Yard.with(COUNTING).right(), 1);
        check.same("12: any start", Yard.with("start any;" + COUNTING).right(), 0);
        check.same("12: nobody says", Yard.with("role a men 6 holds 0;rule a when 1 set 1 hold 0;cycle 1;").right(), 1);
        check.same("12: no men", Yard.with("lamps 2;").right(), 1);
        check.same("12: one alone", Yard.with(SIMPLE + "1 set 0 hold 0 say;").right(), 1);
        check.same("12: of two", Yard.with("role a men 2 holds 0;rule a when 1 set 0 hold 0 say;").right(), 0);
    }

    private void shown() {
        LampYard any = Yard.with("start any;" + COUNTING);
        check.same("13: how many", any.shown(0), 3);
        check.same("13: the start", any.shown(1), 1);
        check.same("13: another what", any.shown(2), -1);
        check.same("13: another what", any.shown(-1), -1);
        int[] row = {2, 0, 2};
        for (int i = 0; i < row.length; i++) {
            check.same("14: man " + i, any.shows(i), row[i]);
        }
        check.same("14: none such", any.shows(3), -1);
        check.same("14: none such", any.shows(-1), -1);
        check.same("14: none such", any.shows(Integer.MIN_VALUE), -1);
        LampYard right = Yard.with(COUNTING);
        check.same("13: right", right.shown(0), -1);
        check.same("13: right", right.shown(1), -1);
        check.same("14: right", right.shows(0), -1);
        // Only 1 who comes behind 2 says, or 2 behind 1: the least row is 1 2, not 2 1.
        LampYard least = Yard.with("lamps 2;start any;role a men 1 holds 0;role b men 2 holds 0;"
                + "rule b when lamps=1 set 2 hold 0;rule b when lamps=2 set 0 hold 0 say;rule b when lamps=3 set 1 hold 0;");
        check.same("13: at once", least.shown(0), 1);
        check.same("13: from two", least.shown(1), 2);
        check.same("14: the least man", least.shows(0), 1);
        LampYard later = Yard.with("role a men 3 holds 0;rule a when lamps and not visits set 1 hold 0 say;"
                + "rule a when visits=1 set 1 hold 0;");
        check.same("13: three days", later.shown(0), 3);
        check.same("14: least row", later.shows(0), 0);
        check.same("14: least row", later.shows(1), 0);
        check.same("14: least row", later.shows(2), 1);
    }

    private void soonest() {
        check.same("15: counting", Yard.with(COUNTING).soonest(), 4);
        check.same("15: from on it is as soon", Yard.with("start any;" + COUNTING).soonest(), 4);
        check.same("15: one alone", Yard.with(SIMPLE + "1 set 0 hold 0 say;").soonest(), 1);
        check.same("15: it can't be", Yard.with("role a men 2 holds 0;").soonest(), -1);
        check.same("15: always wrong", Yard.with("role a men 2 holds 0;rule a when 1 set 0 hold 0 say;").soonest(), -1);
        check.same("15: no men", new LampYard().soonest(), -1);
    }

    private void ends() {
        LampYard counting = Yard.with(COUNTING);
        check.same("16: ends", counting.ends(), 1);
        check.same("17: no states", counting.endless(), 0);
        // From off he counts to 2, but must come to 3.
        LampYard never = Yard.with("role other men 2 holds 0;role count men 1 holds 0;"
                + "rule other when not lamps and holds<1 set 1 hold 1;rule count when lamps set 0 hold holds+1;");
        check.same("16: does not end", never.ends(), 0);
        check.same("17: one state, all of it done", never.endless(), 1);
        LampYard alone = Yard.with("cycle 4;role a men 1 holds 0;");
        check.same("16: one man round and round", alone.ends(), 0);
        check.same("17: four days", alone.endless(), 4);
        // Man 0 puts it on, man 1 off; 2 can't be led without saying.
        LampYard two = Yard.with("role a men 1 holds 0;role b men 1 holds 0;role c men 1 holds 0;"
                + "rule a when 1 set 1 hold 0;rule b when 1 set 0 hold 0;rule c when 1 set 0 hold 0 say;");
        check.same("16: each man, not only two", two.ends(), 1);
        LampYard walk = Yard.with("role a men 2 holds 0;rule a when 1 set 1-lamps hold 0;");
        check.same("17: on and off", walk.endless(), 2);
        check.same("16: no men", new LampYard().ends(), 1);
        check.same("17: no men", Yard.with("start any;").endless(), 0);
    }

    private void idle() {
        check.same("18: nobody", Yard.with(COUNTING).idle(), 0);
        check.same("18: two without rules", Yard.with("role a men 1 holds 0;role b men 2 holds 0;"
                + "rule a when 1 set 1 hold 0;").idle(), 6);
        check.same("18: what is never so", Yard.with("role a men 2 holds 0;rule a when lamps set 0 hold 1;").idle(), 3);
        check.same("18: as it was", Yard.with("role a men 1 holds 2;rule a when 1 set lamps hold holds;").idle(), 1);
        check.same("18: he holds another", Yard.with("role a men 1 holds 2;rule a when 1 set lamps hold 3;").idle(), 0);
        check.same("18: as he says", Yard.with("role a men 1 holds 2;rule a when 1 set 1 hold 2 say;").idle(), 0);
        check.same("18: no men", new LampYard().idle(), 0);
    }

    private void most() {
        LampYard yard = Yard.with("role a men 1 holds 9;role b men 1 holds 0;role c men 1 holds 1;"
                + "rule a when holds>4 set 0 hold holds-1;rule b when 1 set 0 hold holds+10;"
                + "rule c when 1 set 0 hold 30 say;");
        check.same("19: at first", yard.most(0), 9);
        check.same("19: up to the top", yard.most(1), 31);
        check.same("19: not as he says", yard.most(2), 1);
        check.same("19: none such", yard.most(3), -1);
        check.same("19: none such", yard.most(-1), -1);
        check.same("19: no men", new LampYard().most(0), -1);
    }

    private void bears() {
        LampYard counting = Yard.with(COUNTING);
        check.same("20: one forgets, puts it on again", counting.bears(0), 0);
        check.same("20: off is one less", counting.bears(1), 1);
        check.same("20: on is one more", counting.bears(2), 0);
        check.same("20: another one", counting.bears(3), -1);
        check.same("20: another one", counting.bears(-1), -1);
        LampYard silent = Yard.with("lamps 2;role a men 2 holds 0;");
        LampYard wrong = Yard.with("role a men 2 holds 0;rule a when 1 set 0 hold 0 say;");
        for (int fault = 0; fault < 3; fault++) {
            check.same("20: nobody says", silent.bears(fault), 1);
            check.same("20: wrong without", wrong.bears(fault), 0);
            check.same("20: no men", new LampYard().bears(fault), 1);
        }
        // Only if he himself forgets does he take it for another's lamp.
        String own = "men 1 holds 3;rule X when lamps and not visits set 0 hold 3 say;rule X when 1 set 1 hold 3;";
        check.same("20: the first man forgets", Yard.with(("role X " + own).replace("X", "a")
                + "role b men 1 holds 0;").bears(0), 0);
        check.same("20: the last man forgets", Yard.with("role b men 1 holds 0;"
                + ("role X " + own).replace("X", "a")).bears(0), 0);
        // He says by the second lamp alone: the first one may change, but not go with all of them.
        String second = "lamps 2;start on;role a men 2 holds 0;";
        check.same("20: all go off", Yard.with(second + "rule a when lamps<2 set 3 hold 0 say;").bears(1), 0);
        check.same("20: the first changes", Yard.with(second + "rule a when lamps<2 set 3 hold 0 say;").bears(2), 1);
        // Wrong only if two faults were.
        String twice = "lamps 2;start on;role a men 2 holds 0;rule a when lamps=0 set 0 hold holds+1;"
                + "rule a when holds set 0 hold 0 say;rule a when 1 set 3 hold 0;";
        check.same("20: once is enough here", Yard.with(twice).bears(1), 1);
        check.same("20: ahead of the first day, too", Yard.with("role a men 2 holds 0;"
                + "rule a when lamps and not visits set 0 hold 0 say;").bears(2), 0);
    }

    private void spent() {
        String six = "role a men 6 holds 0;";
        LampYard yard = Yard.with("lamps 2;" + six + "rule a when 1 set lamps+1 hold holds+1;");
        check.same("11: spent", yard.states(0), -2);
        check.same("11: spent", yard.states(1), -2);
        check.same("12: spent", yard.right(), -2);
        check.same("13: spent", yard.shown(0), -2);
        check.same("13: spent", yard.shown(1), -2);
        check.same("14: spent", yard.shows(0), -2);
        check.same("15: spent", yard.soonest(), -2);
        check.same("16: spent", yard.ends(), -2);
        check.same("17: spent", yard.endless(), -2);
        check.same("18: spent", yard.idle(), -2);
        check.same("19: spent", yard.most(0), -2);
        check.same("20: spent", yard.bears(0), -2);
        check.same("21: spent", yard.said(0, 1, 0, 0), -2);
        check.same("21: spent, but no start", yard.said(1, 1, 0, 0), -1);
        check.same("7: led all the same", yard.lead(5), 0);
        // 4096 states, with a fault as many more.
        LampYard full = Yard.with(six);
        check.same("11: 4096", full.states(0), 4096);
        check.same("12: 4096", full.right(), 1);
        check.same("20: spent with faults", full.bears(0), -2);
        check.same("20: spent with faults", full.bears(1), -2);
        check.same("20: spent with faults", full.bears(2), -2);
        check.same("17: 4096", full.endless(), 1);
        atTheLimit();
    }

    /** Five thousand states are not too many, five thousand and one are. */
    private void atTheLimit() {
        // Each of four holds counts his visits up to a bound b of his own: so many states as the
        // product of b + 1, where what they know of visits adds nothing (b is 3 or more).
        LampYard yard = Yard.with(bounded(4, 9, 9, 9));
        check.same("11: 5000", yard.states(0), 5000);
        check.same("12: 5000", yard.right(), 1);
        check.same("17: 5000", yard.endless(), 1);
        check.same("19: 5000", yard.most(3), 9);
        check.same("20: more with faults", yard.bears(0), -2);
        check.same("21: 5000", yard.said(0, 12, 0, 0), 0);
        check.same("11: twice as many", Yard.with(bounded(4, 9, 9, 9) + "start any;").states(0), -2);
        // From on, whoever comes says at once: one state more.
        LampYard oneMore = Yard.with(saying(4, 9, 9, 9));
        check.same("11: 5001", oneMore.states(0), -2);
        check.same("13: 5001", oneMore.shown(0), -2);
        check.same("11: 4001", Yard.with(saying(4, 9, 9, 7)).states(0), 4001);
        // 2500 and each once more behind a fault that leaves it as it is.
        LampYard half = Yard.with(bounded(4, 4, 9, 9));
        check.same("11: 2500", half.states(0), 2500);
        check.same("20: 5000 with faults", half.bears(1), 1);
        check.same("20: 5000 with faults", half.bears(2), 1);
        LampYard halfAndOne = Yard.with(saying(4, 4, 9, 9));
        check.same("11: 2501", halfAndOne.states(0), 2501);
        check.same("20: 5001 with faults", halfAndOne.bears(1), -2);
        LampYard more = Yard.with(bounded(6, 6, 6, 7));
        check.same("11: 2744", more.states(0), 2744);
        check.same("20: 5488 with faults", more.bears(1), -2);
    }

    private static String saying(int a, int b, int c, int d) {
        return "start any;" + bounded(a, b, c, d).replaceAll("rule (.)", "rule $1 when lamps set 0 hold 0 say;rule $1");
    }

    private static String bounded(int a, int b, int c, int d) {
        int[] bounds = {a, b, c, d};
        StringBuilder text = new StringBuilder();
        for (int i = 0; i < 4; i++) {
            char name = (char) ('a' + i);
            text.append("role ").append(name).append(" men 1 holds 0;rule ").append(name).append(" when holds<")
                    .append(bounds[i]).append(" set lamps hold holds+1;");
        }
        return text.toString();
    }

    private void said() {
        LampYard yard = Yard.with("role a men 2 holds 0;rule a when visits=1 set 0 hold 0 say;");
        long[][] due = {{0, 1, 0, 1}, {0, 1, 0, 1}, {1, 2, 1, 2}, {1, 1, 1, 2}, {1, 1, 1, 2}};
        for (int days = 0; days < due.length; days++) {
            for (int i = 0; i < 4; i++) {
                check.same("21: days " + days + ", " + i, yard.said(0, days, i / 2, i % 2), due[days][i]);
            }
        }
        check.same("21: 12 days", yard.said(0, 12, 1, 1), 2);
        check.same("21: too many days", yard.said(0, 13, 0, 0), -1);
        check.same("21: too few days", yard.said(0, -1, 0, 0), -1);
        check.same("21: no start", yard.said(1, 3, 0, 0), -1);
        check.same("21: no start", yard.said(-1, 3, 0, 0), -1);
        check.same("21: another what", yard.said(0, 3, 2, 0), -1);
        check.same("21: another what", yard.said(0, 3, -1, 0), -1);
        check.same("21: another part", yard.said(0, 3, 0, 2), -1);
        check.same("21: another part", yard.said(0, 3, 0, -1), -1);
        check.same("21: no men", new LampYard().said(0, 3, 0, 0), -1);
        LampYard on = Yard.with("lamps 2;start on;role a men 3 holds 0;rule a when lamps=3 set 0 hold 0 say;");
        check.same("21: on", on.said(3, 1, 0, 0), 1);
        check.same("21: off is no start", on.said(0, 1, 0, 0), -1);
        check.same("21: one on is no start", on.said(1, 1, 0, 0), -1);
        LampYard six = Yard.with("cycle 12;role a men 1 holds 0;role b men 5 holds 0;"
                + "rule a when day=11 set 0 hold 0 say;");
        check.same("21: one in six on day 11", six.said(0, 12, 0, 1) == -2 ? 6 : six.said(0, 12, 0, 1), 6);
    }

    private void all() {
        LampYard yard = new LampYard();
        check.same("22: 3 by 3", yard.all(3, 3, 0), 2);
        check.same("22: 3 by 3", yard.all(3, 3, 1), 9);
        check.same("22: 2 by 1", yard.all(2, 1, 0), 0);
        check.same("22: 2 by 1", yard.all(2, 1, 1), 1);
        check.same("22: 1 by 20", yard.all(1, 20, 1), 1);
        check.same("22: 2 by 20", yard.all(2, 20, 0), 524287);
        check.same("22: 2 by 20", yard.all(2, 20, 1), 524288);
        check.same("22: 7", yard.all(7, 3, 0), -1);
        check.same("22: 0", yard.all(0, 3, 0), -1);
        check.same("22: 21 days", yard.all(3, 21, 0), -1);
        check.same("22: -1 days", yard.all(3, -1, 0), -1);
        check.same("22: another part", yard.all(3, 3, 2), -1);
    }

    private void guess() {
        LampYard yard = new LampYard();
        check.same("23: just enough", yard.guess(2, 500), 2);
        check.same("23: not enough", yard.guess(2, 499), 3);
        check.same("23: all odds", yard.guess(6, 1000), 0);
        check.same("23: none is enough", yard.guess(2, 0), -1);
        check.same("23: one at once", yard.guess(1, 0), 1);
        check.same("23: w above", yard.guess(2, 1001), -1);
        check.same("23: w below", yard.guess(2, -1), -1);
        check.same("23: n below", yard.guess(0, 5), -1);
        check.same("23: n above", yard.guess(7, 5), -1);
    }

    private void mean() {
        LampYard yard = new LampYard();
        check.same("24: two", yard.mean(2, 0), 3);
        check.same("24: two", yard.mean(2, 1), 1);
        check.same("24: six", yard.mean(6, 0), 147);
        check.same("24: six", yard.mean(6, 1), 10);
        check.same("24: none", yard.mean(0, 0), -1);
        check.same("24: seven", yard.mean(7, 0), -1);
        check.same("24: another part", yard.mean(3, 2), -1);
    }

    private void counter() {
        LampYard yard = new LampYard();
        check.same("25: four, known", yard.counter(4, 1, 1, 0), 3);
        check.same("25: four, known", yard.counter(4, 1, 1, 1), 1);
        check.same("25: four, not known", yard.counter(4, 1, 0, 0), 4);
        check.same("25: not sure", yard.counter(4, 1, 0, 1), 0);
        check.same("25: twice", yard.counter(4, 2, 0, 0), 6);
        check.same("25: sure", yard.counter(4, 2, 0, 1), 1);
        check.same("25: too many", yard.counter(5, 1, 1, 0), -1);
        check.same("25: too few", yard.counter(1, 1, 1, 0), -1);
        check.same("25: k", yard.counter(3, 0, 1, 0), -1);
        check.same("25: k", yard.counter(3, 4, 1, 1), -1);
        check.same("25: known", yard.counter(3, 1, 2, 0), -1);
        check.same("25: known", yard.counter(3, 1, -1, 0), -1);
        check.same("25: what", yard.counter(3, 1, 1, 2), -1);
    }

    private void fair() {
        LampYard yard = Yard.with("role a men 1 holds 0;role b men 2 holds 0;rule a when 1 set 1-lamps hold 0;"
                + "rule b when lamps set 0 hold 0;");
        check.same("26: at first", yard.fair(), 0);
        Yard.leads(yard, 0, 0, 0);
        check.same("26: three to none", yard.fair(), 3);
        Yard.leads(yard, 1, 0, 2);
        check.same("26: four to one", yard.fair(), 3);
        check.same("26: burden", yard.man(0, 4), 4);
        yard.begin(1);
        check.same("26: since the latest begin", yard.fair(), 0);
        check.same("26: without men", new LampYard().fair(), -1);
        check.same("26: one man", Yard.with("role a men 1 holds 0;").fair(), 0);
    }

    private void log() {
        LampYard yard = Yard.with("role a men 2 holds 0;");
        check.same("27: first", yard.log(0, 0), 0);
        check.same("27: day 99", yard.log(99, 1), 1);
        check.same("27: day 100", yard.log(100, 1), -1);
        check.same("27: day -1", yard.log(-1, 1), -1);
        check.same("27: no such man", yard.log(1, 2), -1);
        check.same("27: no such man", yard.log(1, -1), -1);
        check.same("27: nothing done", yard.about(6), 2);
        for (int i = 2; i < 60; i++) {
            check.same("27: log " + i, yard.log(5, 0), i);
        }
        check.same("27: there are 60", yard.log(5, 0), -1);
        check.yes("27: one untold", yard.untell(30));
        check.same("27: there are 60 still", yard.log(5, 0), -1);
        check.same("27: 60", yard.about(6), 60);
        check.same("27: no men", new LampYard().log(0, 0), -1);
    }

    private void untell() {
        LampYard yard = Yard.with("role a men 2 holds 0;");
        check.no("28: none such", yard.untell(0));
        yard.log(3, 1);
        check.no("28: none such", yard.untell(1));
        check.no("28: none such", yard.untell(-1));
        yard.later(5);
        check.yes("28: untold", yard.untell(0));
        check.no("28: already", yard.untell(0));
        check.same("28: known at 4", yard.last(1, 4), 3);
        check.same("28: not known at 5", yard.last(1, 5), -1);
        yard.log(7, 0);
        yard.untell(1);
        check.same("28: told and untold at one time", yard.last(0, 5), -1);
    }

    private void later() {
        LampYard yard = new LampYard();
        check.same("29: none", yard.later(0), 0);
        check.same("29: some", yard.later(7), 7);
        check.same("29: below", yard.later(-1), -1);
        check.same("29: above", yard.later(1001), -1);
        check.same("29: greatest", yard.later(Integer.MAX_VALUE), -1);
        check.same("29: stays", yard.about(7), 7);
        for (int i = 1; i < 100; i++) {
            yard.later(1000);
        }
        check.same("29: 99,007", yard.about(7), 99007);
        check.same("29: too late", yard.later(994), -1);
        check.same("29: just", yard.later(993), 100000);
        check.same("29: no later", yard.later(1), -1);
        check.same("29: stays", yard.later(0), 100000);
    }

    private void logged() {
        LampYard yard = Yard.with("role a men 3 holds 0;");
        check.same("30: nothing", yard.logged(0, 0), -1);
        check.same("30: nothing", yard.logged(1, 0), 0);
        yard.log(8, 0);
        yard.log(2, 1);
        yard.log(5, 2);
        yard.log(20, 2);
        check.same("30: when", yard.logged(0, 0), 8);
        yard.later(2);
        yard.log(8, 1);
        check.same("30: another on that day", yard.logged(0, 2), -1);
        check.same("30: as known before", yard.logged(0, 1), 8);
        check.same("30: clash", yard.logged(1, 2), 1);
        check.same("30: no clash before", yard.logged(1, 1), 0);
        yard.log(2, 1);
        check.same("30: the same man is no clash", yard.logged(1, 2), 1);
        yard.log(8, 2);
        check.same("30: three on a day are one clash", yard.logged(1, 2), 1);
        check.same("30: ahead of all", yard.logged(1, -1), 0);
        check.same("30: another what", yard.logged(2, 0), -1);
        check.same("30: another what", yard.logged(-1, 0), -1);
        check.same("30: without men", new LampYard().logged(0, 0), -1);
        check.same("30: without men", new LampYard().logged(1, 0), 0);
    }

    private void last() {
        LampYard yard = Yard.with("role a men 2 holds 0;");
        yard.log(4, 0);
        yard.log(9, 0);
        yard.log(9, 1);
        check.same("31: told last", yard.last(1, 0), 9);
        check.same("31: the day ahead then", yard.last(0, 0), 4);
        yard.later(1);
        yard.untell(2);
        check.same("31: the one before counts again", yard.last(0, 1), 9);
        check.same("31: none", yard.last(1, 1), -1);
        check.same("31: far ahead", yard.last(0, Integer.MAX_VALUE), 9);
        check.same("31: far back", yard.last(0, Integer.MIN_VALUE), -1);
        check.same("31: no such man", yard.last(2, 0), -1);
        check.same("31: no such man", yard.last(-1, 0), -1);
    }

    private void agrees() {
        LampYard yard = Yard.with(COUNTING);
        check.same("32: no log", yard.agrees(0, 0), -1);
        int[] row = {0, 2, 1, 2};
        for (int day = 0; day < 3; day++) {
            yard.log(day, row[day]);
            check.same("32: no say", yard.agrees(0, 0), 1);
        }
        yard.log(4, 0);
        check.same("32: a day is not told", yard.agrees(0, 0), -1);
        yard.untell(3);
        yard.later(1);
        yard.log(3, 2);
        check.same("32: a right say on the latest day", yard.agrees(0, 1), 1);
        check.same("32: from on he says as well", yard.agrees(1, 1), 1);
        check.same("32: as known before", yard.agrees(0, 0), 1);
        yard.log(4, 2);
        check.same("32: a say ahead of the latest day", yard.agrees(0, 1), 0);
        check.same("32: can't be", yard.agrees(2, 1), -1);
        check.same("32: can't be", yard.agrees(-1, 1), -1);
        check.same("32: nothing known", yard.agrees(0, -1), -1);
        check.same("32: the course stays", yard.about(3), 0);
        LampYard wrong = Yard.with("role a men 2 holds 0;rule a when visits set 0 hold 0 say;");
        wrong.log(0, 1);
        wrong.log(1, 1);
        check.same("32: a wrong say on the latest day", wrong.agrees(0, 0), 0);
        wrong.log(0, 0);
        check.same("32: told last on day 0", wrong.agrees(0, 0), 1);
        LampYard gap = Yard.with("role a men 2 holds 0;");
        gap.log(1, 0);
        check.same("32: day 0 is not told", gap.agrees(0, 0), -1);
    }

    private void images() {
        LampYard yard = Yard.with("lamps 2;cycle 5;role a men 2 holds 1;rule a when visits=3 set 0 hold 0 say;"
                + "rule a when 1 set lamps+1 hold holds+day;");
        check.same("34: nothing was", yard.back(0), -1);
        Yard.leads(yard, 0, 0, 1);
        check.same("33: kept", yard.image(0), 3);
        check.same("33: none such", yard.image(3), -1);
        check.same("33: none such", yard.image(-1), -1);
        yard.lead(0);
        yard.forget(1);
        yard.dark(2);
        check.same("7: he says", yard.lead(0), 1);
        check.same("33: over is kept, too", yard.image(2), 5);
        check.same("34: back", yard.back(0), 3);
        check.same("34: lamps", yard.about(4), 3);
        check.same("34: day", yard.about(3), 3);
        check.same("34: holds", yard.man(0, 1), 2);
        check.same("34: holds", yard.man(1, 1), 3);
        check.same("34: knows", yard.man(0, 2), 2);
        check.same("34: been", yard.man(1, 3), 1);
        check.same("34: burden", yard.man(0, 4), 2);
        check.same("34: fair", yard.fair(), 1);
        yard.lead(1);
        check.same("34: day goes on from it", yard.man(1, 1), 6);
        check.same("34: again", yard.back(0), 3);
        check.same("34: as it was kept", yard.man(1, 1), 3);
        check.same("34: over again", yard.back(2), 5);
        check.same("34: over", yard.about(5), 1);
        check.same("34: over", yard.lead(0), -1);
        check.same("34: box 1 is empty", yard.back(1), -1);
        check.same("34: none such", yard.back(3), -1);
        check.same("34: none such", yard.back(-1), -1);
        check.same("34: nothing done", yard.about(3), 5);
        yard.begin(0);
        check.same("34: behind begin", yard.back(0), 3);
        yard.log(0, 0);
        yard.later(3);
        yard.back(0);
        check.same("34: logs stay", yard.about(6), 1);
        check.same("34: time stays", yard.about(7), 3);
        check.same("33: a box anew", yard.begin(1) ? yard.image(0) : -1, 0);
        yard.lead(0);
        check.same("34: what was kept last", yard.back(0), 0);
        check.same("34: lamps", yard.about(4), 1);
    }

    private void about() {
        LampYard yard = Yard.with("lamps 2;" + COUNTING);
        yard.lead(0);
        yard.log(1, 1);
        yard.later(12);
        yard.feed(0, 0, 0, 0, 0);
        int[] due = {3, 2, 3, 1, 1, 0, 1, 12, 20, 17};
        for (int what = 0; what < due.length; what++) {
            check.same("35: about " + what, yard.about(what), due[what]);
        }
        check.same("35: another what", yard.about(10), -1);
        check.same("35: another what", yard.about(-1), -1);
        yard.begin(3);
        check.same("35: lamps", yard.about(4), 3);
    }
}
