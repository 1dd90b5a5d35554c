import java.nio.charset.StandardCharsets;

/** Puts texts on the tape of a LampYard. */
final class Yard {
    static LampYard with(String plan) {
        LampYard yard = new LampYard();
        int men = read(yard, plan);
        if (men == LampYard.NONE) {
            throw new IllegalStateException("fault " + yard.fault(0) + " at " + yard.fault(1) + ": " + plan);
        }
        return yard;
    }

    static int read(LampYard yard, String text) {
        put(yard, text);
        return yard.plan();
    }

    static void put(LampYard yard, String text) {
        byte[] bytes = text.getBytes(StandardCharsets.ISO_8859_1);
        yard.end(0);
        for (int from = 0; from < bytes.length; from += 20) {
            int length = yard.feed(number(bytes, from), number(bytes, from + 4), number(bytes, from + 8),
                    number(bytes, from + 12), number(bytes, from + 16));
            if (length != from + 20) {
                throw new IllegalStateException("feed answered " + length);
            }
        }
        if (yard.end(bytes.length) != bytes.length) {
            throw new IllegalStateException("end refused " + bytes.length);
        }
    }

    /** Leads these men in this order; what each answered, as a text. */
    static String leads(LampYard yard, int... men) {
        StringBuilder answers = new StringBuilder();
        for (int man : men) {
            answers.append(yard.lead(man)).append(' ');
        }
        return answers.toString().trim();
    }

    /** All that can be seen of the course, the plan, its last fault and the logs without changing them. */
    static String seen(LampYard yard) {
        StringBuilder seen = new StringBuilder();
        for (int what = 0; what < 10; what++) {
            seen.append(yard.about(what)).append(' ');
        }
        int time = yard.about(7);
        for (int man = 0; man < yard.about(0); man++) {
            for (int what = 0; what < 5; what++) {
                seen.append(yard.man(man, what)).append(' ');
            }
            seen.append(yard.last(man, time)).append(' ');
        }
        seen.append(yard.fault(0)).append(' ').append(yard.fault(1)).append(' ').append(yard.logged(0, time));
        return seen.append(' ').append(yard.logged(1, time)).append(' ').append(yard.agrees(0, time)).toString();
    }

    private static int number(byte[] bytes, int from) {
        int number = 0;
        for (int i = from; i < from + 4; i++) {
            number = number << 8 | (i < bytes.length ? bytes[i] & 255 : 0);
        }
        return number;
    }
}
