import java.util.Random;

/** Texts of plans by chance; the same seed gives the same ones. */
final class Plans {
    private final Random random;
    private int roles;
    private int unitsLeft;

    Plans(long seed) {
        random = new Random(seed);
    }

    String next(int mostMen) {
        StringBuilder text = new StringBuilder();
        unitsLeft = 60;
        setting(text, "lamps " + (1 + random.nextInt(2)), 2);
        setting(text, "cycle " + (1 + random.nextInt(random.nextInt(4) == 0 ? 12 : 3)), 3);
        setting(text, "fails " + random.nextInt(random.nextInt(4) == 0 ? 12 : 3), 4);
        setting(text, "start " + pick("off", "on", "any"), 2);
        int men = 1 + random.nextInt(mostMen);
        roles = 0;
        while (men > 0 && roles < 4) {
            int some = 1 + random.nextInt(men);
            men -= some;
            text.append("role ").append(name(roles)).append(" men ").append(some).append(" holds ")
                    .append(random.nextInt(3) == 0 ? random.nextInt(32) : 0).append(";");
            roles++;
        }
        int rules = random.nextInt(6);
        for (int i = 0; i < rules && unitsLeft > 12; i++) {
            rule(text);
        }
        return text.toString();
    }

    /** Some bytes of a text made others, left out, put in, or told twice. */
    String spoilt(String text) {
        StringBuilder spoilt = new StringBuilder(text);
        int times = 1 + random.nextInt(2);
        for (int i = 0; i < times && spoilt.length() > 0; i++) {
            int at = random.nextInt(spoilt.length());
            String piece = pick("a", "1", "99", " ", ";", "(", ")", "<", ">", "=", "+", "-", "*", "$", "or ",
                    "and ", " not ", "say", "lamps", "role", "rule b", "men 7", "\n", "A", "12345", "\u00ff",
                    "0", "hold", "holds", "visits", "day", "abcdefghi", "start on;");
            switch (random.nextInt(6)) {
                case 5 -> spoilt.insert(spoilt.lastIndexOf(";", at) + 1, pick("role a men 1 holds 0;",
                        "role z men 2 holds 32;", "role bb men 1 holds 1;", "cycle 13;", "fails 12;", "cycle 0;",
                        "lamps 2;", "rule a when 1 set 1 hold 1;", "rule z when 1 set 1 hold 1;", "start on;",
                        "role z men 6 holds 0;", "role z men 0 holds 0;", "rule a when not (not (not (not (not "));
                case 0 -> spoilt.deleteCharAt(at);
                case 1 -> spoilt.insert(at, piece);
                case 2 -> spoilt.replace(at, Math.min(spoilt.length(), at + piece.length()), piece);
                case 3 -> spoilt.setLength(at);
                default -> {
                    int to = Math.min(spoilt.length(), at + 1 + random.nextInt(12));
                    spoilt.insert(random.nextInt(spoilt.length()), spoilt.substring(at, to));
                }
            }
        }
        spoilt.setLength(Math.min(spoilt.length(), 1400));
        return spoilt.toString();
    }

    int below(int bound) {
        return random.nextInt(bound);
    }

    String pick(String... of) {
        return of[random.nextInt(of.length)];
    }

    private static String name(int role) {
        return new String[] {"a", "bb", "counters", "e"}[role];
    }

    private void setting(StringBuilder text, String line, int oneOf) {
        if (random.nextInt(oneOf) == 0) {
            text.append(line).append(pick(";", " ;", ";\n"));
        }
    }

    private void rule(StringBuilder text) {
        text.append("rule ").append(name(random.nextInt(roles))).append(" when ");
        switch (random.nextInt(4)) {
            case 0 -> text.append("lamps=").append(random.nextInt(4));
            case 1 -> text.append("holds<").append(random.nextInt(4)).append(" and not lamps");
            default -> text.append(e(2));
        }
        text.append(" set ").append(random.nextInt(3) == 0 ? "1-lamps" : e(1));
        text.append(" hold ").append(random.nextInt(2) == 0 ? "holds+1" : random.nextInt(2) == 0 ? "holds" : e(1));
        text.append(random.nextInt(3) == 0 ? " say" : "").append(";");
        unitsLeft -= 5;
    }

    private String e(int depth) {
        if (unitsLeft < 14 || depth == 0 || random.nextInt(3) == 0) {
            unitsLeft--;
            return pick("lamps", "holds", "day", "visits", "men", "0", "1", "2", String.valueOf(random.nextInt(40)));
        }
        switch (random.nextInt(8)) {
            case 0:
                unitsLeft--;
                return "(" + e(depth - 1) + pick(" or ", " and ", "<", ">", "=") + e(depth - 1) + ")";
            case 1:
                unitsLeft--;
                return "(not " + e(depth - 1) + ")";
            case 2:
                unitsLeft -= 2;
                return "(" + e(depth - 1) + ")*(" + e(depth - 1) + ")";
            case 3:
                return e(depth - 1) + "*" + e(depth - 1);
            case 4:
                return e(depth - 1) + "-" + e(depth - 1);
            case 5:
                unitsLeft--;
                return "(" + e(depth - 1) + pick("=", "<", ">") + e(0) + ")";
            default:
                return e(depth - 1) + "+" + e(depth - 1);
        }
    }
}
