import java.lang.management.ManagementFactory;

/** What an object takes of the one room in which all calls of a run live. */
public final class RoomTest {
    /** 7.3 million fields and elements, of which the largest take eight bytes. */
    private static final long ROOM_ELEMENTS = 7_300_000;

    public static void main(String[] args) {
        Check check = new Check();
        dearest(new LampYard(), 3);
        long before = made();
        LampYard yard = new LampYard();
        long fresh = made() - before;
        check.yes("a new object is small, not " + fresh, fresh < 60_000);
        before = made();
        dearest(yard, 1);
        long first = made() - before;
        // A byte or more an element: even so this is a small part of the room.
        check.yes("its tables take little, not " + first, first < ROOM_ELEMENTS / 8);
        before = made();
        dearest(yard, 25);
        // What the test itself makes to put the texts on the tape is counted, too.
        long again = made() - before;
        check.yes("what comes later makes next to nothing, not " + again, again < 400_000);
        check.close("RoomTest");
    }

    /** All that is asked of a plan with very many states, and of another behind it. */
    private static void dearest(LampYard yard, int times) {
        for (int i = 0; i < times; i++) {
            for (String text : new String[] {"role a men 6 holds 0;", "lamps 2;start any;role a men 3 holds 0;"
                    + "rule a when lamps=3 set 0 hold holds+1 say;rule a when 1 set lamps+1 hold holds;"}) {
                Yard.read(yard, text);
                yard.states(0);
                yard.endless();
                yard.bears(0);
                yard.bears(1);
                yard.bears(2);
                yard.said(0, 12, 0, 0);
                yard.said(3, 12, 0, 0);
                yard.counter(4, 3, 0, 1);
                yard.guess(6, 1);
                yard.all(6, 20, 0);
                yard.image(1);
                yard.lead(0);
                yard.log(0, 0);
                yard.agrees(0, 0);
                yard.logged(1, 0);
            }
        }
    }

    private static long made() {
        return ((com.sun.management.ThreadMXBean) ManagementFactory.getThreadMXBean())
                .getThreadAllocatedBytes(Thread.currentThread().getId());
    }
}
