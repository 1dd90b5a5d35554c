/** Spoilt texts: each fault and its place, beside another way of reading. */
public final class TextsTest {
    private static final int TEXTS = Integer.getInteger("texts", 60000);

    public static void main(String[] args) {
        Check check = new Check();
        Plans plans = new Plans(Long.getLong("seed", 11));
        LampYard yard = new LampYard();
        int[] kinds = new int[6];
        for (int i = 0; i < TEXTS; i++) {
            String text = plans.next(6);
            if (i % 8 != 0) {
                text = plans.spoilt(text);
            }
            int before = check.wrong();
            int kind = 0;
            int place = -1;
            int men = -1;
            int units = yard.about(9);
            try {
                Oracle oracle = new Oracle(text);
                men = oracle.men.size();
                units = oracle.units;
            } catch (Oracle.Fault fault) {
                kind = fault.kind;
                place = fault.place;
            }
            check.same("plan", Yard.read(yard, text), men);
            check.same("fault", yard.fault(0), kind);
            check.same("place", yard.fault(1), place);
            check.same("units", yard.about(9), units);
            check.same("tape", yard.about(8), 0);
            kinds[kind]++;
            if (check.wrong() > before) {
                System.out.println("  in: " + text);
            }
        }
        for (int kind = 0; kind < kinds.length; kind++) {
            check.yes("fault " + kind + " came often", kinds[kind] > TEXTS / 500);
        }
        System.out.println(java.util.Arrays.toString(kinds));
        check.close("TextsTest");
    }
}
