import java.util.function.IntSupplier;

/** What the tests share: answers that are due, refusals that change nothing, rivers by their texts. */
final class Due {
    private static int wrong = 0;
    private static int looked = 0;

    private Due() {
    }

    static void due(String call, long got, long want) {
        looked++;
        if (got != want) {
            wrong++;
            System.out.println(call + " answered " + got + ", due is " + want);
        }
    }

    /** A call that answers 1 and tells by asked(). */
    static void told(DareFord x, String call, int got, int want) {
        due(call, got, 1);
        due(call + " by asked()", x.asked(), want);
    }

    static void ratio(DareFord x, String call, long upper, long lower) {
        due(call + " by upper()", x.upper(), upper);
        due(call + " by lower()", x.lower(), lower);
    }

    /** A call that is refused (BAD, FULL, STATE) and changes nothing at all. */
    static void refused(DareFord x, String call, int want, IntSupplier made) {
        refusedAs(x, call, want, 0, made);
    }

    /** A call that is refused by a FINDING, which alone is told and counted. */
    static void finds(DareFord x, String call, int finding, IntSupplier made) {
        refusedAs(x, call, DareFord.FINDING, finding, made);
    }

    private static void refusedAs(DareFord x, String call, int want, int finding, IntSupplier made) {
        long[] before = seen(x);
        due(call, made.getAsInt(), want);
        long[] after = seen(x);
        if (finding > 0) {
            before[4] = finding;
            before[4 + finding]++;
        }
        for (int i = 0; i < before.length; i++) {
            due(call + " refused, then number " + i + " of what is seen", after[i], before[i]);
        }
    }

    private static long[] seen(DareFord x) {
        long[] seen = new long[10];
        seen[0] = x.digest();
        seen[1] = x.asked();
        seen[2] = x.upper();
        seen[3] = x.lower();
        seen[4] = x.finding();
        for (int f = 1; f <= 5; f++) {
            seen[4 + f] = x.findings(f);
        }
        return seen;
    }

    static void write(DareFord x, int t, String text) {
        x.text(t, text.length());
        for (int i = 0; i < text.length(); i++) {
            x.put(t, i, text.charAt(i));
        }
    }

    static DareFord river(String text) {
        DareFord x = new DareFord();
        write(x, 0, text);
        x.river(0);
        return x;
    }

    static void write(DareFord x, int r, int... ints) {
        x.row(r, ints.length);
        for (int i = 0; i < ints.length; i++) {
            x.lay(r, i, ints[i]);
        }
    }

    static void rowIs(DareFord x, String call, int r, int... ints) {
        for (int i = 0; i < ints.length; i++) {
            told(x, call + ", place " + i + " of the row", x.at(r, i), ints[i]);
        }
        due(call + ", the row's end", x.at(r, ints.length), DareFord.FINDING);
    }

    static void end() {
        System.out.println(wrong == 0 ? looked + " answers are as due" : wrong + " of " + looked + " answers are not as due");
        if (wrong != 0) {
            System.exit(1);
        }
    }
}
