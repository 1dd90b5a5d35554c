import java.util.Random;

/** Any calls with any numbers in any order: nothing is thrown, and like calls answer alike. */
public final class HostileTest {
    private static final int[] EDGES = {0, 1, 2, 3, 4, 5, 6, 7, 11, 12, 13, 20, 21, 31, 32, 59, 60, 61, 99, 100, 101,
        1000, 1001, 1400, 1401, 5000, 10000, 100000, -1, -2, -3, Integer.MAX_VALUE, Integer.MIN_VALUE};

    public static void main(String[] args) {
        Check check = new Check();
        Plans plans = new Plans(31);
        for (int round = 0; round < 1500; round++) {
            LampYard one = new LampYard();
            LampYard two = new LampYard();
            Random random = new Random(round);
            for (int i = 0; i < 400; i++) {
                if (random.nextInt(40) == 0) {
                    String text = plans.next(1 + random.nextInt(6));
                    text = random.nextInt(4) == 0 ? plans.spoilt(text) : text;
                    check.same("plan", Yard.read(one, text), Yard.read(two, text));
                }
                int method = random.nextInt(34);
                int[] numbers = {number(random), number(random), number(random), number(random), number(random)};
                check.same("method " + method, call(one, method, numbers), call(two, method, numbers));
            }
        }
        check.close("HostileTest");
    }

    private static int number(Random random) {
        int kind = random.nextInt(10);
        return kind == 0 ? random.nextInt() : kind < 4 ? EDGES[random.nextInt(EDGES.length)] : random.nextInt(5);
    }

    private static long call(LampYard yard, int method, int[] n) {
        switch (method) {
            case 0: return yard.feed(n[0], n[1], n[2], n[3], n[4]);
            case 1: return yard.end(n[0]);
            case 2: return yard.plan();
            case 3: return yard.fault(n[0]);
            case 4: return yard.begin(n[0]) ? 1 : 0;
            case 5: return yard.lead(n[0]);
            case 6: return yard.forget(n[0]) ? 1 : 0;
            case 7: return yard.dark(n[0]);
            case 8: return yard.man(n[0], n[1]);
            case 9: return yard.states(n[0]);
            case 10: return yard.right();
            case 11: return yard.shown(n[0]);
            case 12: return yard.shows(n[0]);
            case 13: return yard.soonest();
            case 14: return yard.ends();
            case 15: return yard.endless();
            case 16: return yard.idle();
            case 17: return yard.most(n[0]);
            case 18: return yard.bears(n[0]);
            case 19: return yard.said(n[0], n[1], n[2], n[3]);
            case 20: return yard.all(n[0], n[1], n[2]);
            case 21: return yard.guess(n[0], n[1]);
            case 22: return yard.mean(n[0], n[1]);
            case 23: return yard.counter(n[0], n[1], n[2], n[3]);
            case 24: return yard.fair();
            case 25: return yard.log(n[0], n[1]);
            case 26: return yard.untell(n[0]) ? 1 : 0;
            case 27: return yard.later(n[0]);
            case 28: return yard.logged(n[0], n[1]);
            case 29: return yard.last(n[0], n[1]);
            case 30: return yard.agrees(n[0], n[1]);
            case 31: return yard.image(n[0]);
            case 32: return yard.back(n[0]);
            default: return yard.about(n[0]);
        }
    }
}
