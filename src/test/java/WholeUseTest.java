import java.util.function.IntUnaryOperator;

/**
 * "What it is": an object is used for at most 512 calls after it has been made. Each call is as due to the
 * 512th, whichever it is, and objects that are used by turns know nothing of one another.
 */
public final class WholeUseTest {
    private static final int CALLS = 512;
    /** thought() of each makes 12 calls, and in five of them another one that tells. */
    private static final int THOUGHT_CALLS = 17;
    private static final int NOTHING = 1, NOUGHT = 4;
    private static final String SIX = "f4p109d705e312b008t914q602";
    private static final int SIX_MADE = 1 + SIX.length() + 1;

    public static void main(String[] args) {
        rowsToTheLast();
        textsToTheLast();
        deedsToTheLast();
        riversToTheLast();
        keptToTheLast();
        lotsToTheLast();
        askedToTheLast();
        findingsToTheLast();
        refusedToTheLast();
        objectsByTurns();
        manyObjects();
        Due.end();
    }

    /** What is made again and again on an object that gets 512 calls in all, others ahead and behind among them. */
    private static void untilTheLast(String call, int others, IntUnaryOperator one, IntUnaryOperator want) {
        for (int n = 0; n < CALLS - others; n++) {
            Due.due(call + ", number " + n, one.applyAsInt(n), want.applyAsInt(n));
        }
    }

    private static DareFord six() {
        return Due.river(SIX);
    }

    private static int asked(DareFord x, int answer) {
        return answer == 1 ? x.asked() : answer;
    }

    // ---- each to the last

    private static void rowsToTheLast() {
        DareFord x = new DareFord();
        untilTheLast("row(n % 6, n % 41)", 0, n -> x.row(n % 6, n % 41), n -> n % 41);
        DareFord y = new DareFord();
        y.row(3, 40);
        for (int n = 0; n < (CALLS - 1) / 2; n++) {
            Due.told(y, "lay(3, n % 40, n + 1), " + n, y.lay(3, n % 40, n + 1), n < 40 ? 0 : n - 39);
        }
        DareFord z = new DareFord();
        untilTheLast("row, tear by turns", 2, n -> n % 2 == 0 ? z.row(5, 7) : z.tear(5), n -> n % 2 == 0 ? 7 : 1);
        Due.due("count(9) behind them", z.count(9), 0);
    }

    private static void textsToTheLast() {
        DareFord x = new DareFord();
        untilTheLast("text(n % 4, n % 61)", 0, n -> x.text(n % 4, n % 61), n -> n % 61);
        DareFord y = new DareFord();
        y.text(2, 60);
        untilTheLast("put(2, n % 60, n % 100)", 1, n -> y.put(2, n % 60, n % 100),
            n -> 1000 + (n < 60 ? ' ' : (n - 60) % 100));
    }

    /** DEEDS are 40 at most, but what was undone is done again as often as wanted. */
    private static void deedsToTheLast() {
        DareFord x = six();
        long digest = x.digest();
        int[] wants = {4, 17, 5, 6, 6, 5};
        untilTheLast("DEEDS, undone, again", SIX_MADE + 3, n -> deed(x, n % 6), n -> wants[n % 6]);
        x.undo(0);
        Due.due("digest() as at first", x.digest(), digest);
    }

    private static int deed(DareFord x, int which) {
        switch (which) {
            case 0: return x.night();
            case 1: return x.raise(3, 9);
            case 2: return x.shame(2, 5);
            case 3: return x.door(5, 0);
            case 4: return x.raise(1, 2);
            default: return x.undo(0);
        }
    }

    private static void riversToTheLast() {
        DareFord x = six();
        untilTheLast("NIGHT, river(0) by turns", SIX_MADE, n -> n % 2 == 0 ? x.night() : x.river(0),
            n -> n % 2 == 0 ? 4 : 6);
        DareFord y = six();
        untilTheLast("fault(0)", SIX_MADE, n -> y.fault(0), n -> DareFord.NONE);
    }

    private static void keptToTheLast() {
        DareFord x = six();
        x.night();
        untilTheLast("keep, NIGHT, on by turns", SIX_MADE + 2,
            n -> n % 3 == 0 ? x.keep(n % 2) : n % 3 == 1 ? x.night() : x.on(n % 2), n -> n % 3 == 1 ? 4 : 1);
        Due.due("count(11) behind them", x.count(11), 2);
    }

    private static void lotsToTheLast() {
        DareFord x = six();
        int ford = x.lots(20, 12345);
        long digest = x.digest();
        x.undo(0);
        untilTheLast("lots, undo by turns", SIX_MADE + 6, n -> n % 2 == 0 ? x.lots(20, 12345) : x.undo(0),
            n -> n % 2 == 0 ? ford : 20);
        x.undo(0);
        x.lots(20, 12345);
        Due.due("digest() behind the same lots", x.digest(), digest);
    }

    /** The dearest of what is only thought of, each as it was the first time. */
    private static void askedToTheLast() {
        DareFord x = six();
        x.row(0, 1);
        x.lay(0, 0, 4);
        long digest = x.digest();
        int[] first = new int[12];
        for (int which = 0; which < first.length; which++) {
            first[which] = thought(x, which);
        }
        int rounds = (CALLS - SIX_MADE - 4) / THOUGHT_CALLS - 1;
        for (int n = 0; n < first.length * rounds; n++) {
            Due.due("what is thought of, number " + n, thought(x, n % first.length), first[n % first.length]);
        }
        Due.due("digest() behind what is thought of", x.digest(), digest);
    }

    private static int thought(DareFord x, int which) {
        switch (which) {
            case 0: return x.where(40);
            case 1: return x.crosses(4, 40);
            case 2: return x.first(5);
            case 3: return x.lift(3, 20);
            case 4: return x.darings(4, 0);
            case 5: return x.kinds(4, 0);
            case 6: return 100 * x.look(4, 0) + x.asked();
            case 7: return asked(x, x.duel(0, 4, 3));
            case 8: return asked(x, x.sets(31));
            case 9: return x.sure(31);
            case 10: return x.odds(1, 5) * (int) x.upper();
            default: return x.fair(5) + (int) x.upper();
        }
    }

    private static void findingsToTheLast() {
        DareFord x = new DareFord();
        untilTheLast("tear(2), missing", 2, n -> x.tear(2), n -> DareFord.FINDING);
        Due.due("findings(1)", x.findings(NOTHING), CALLS - 2);
        Due.due("finding()", x.finding(), NOTHING);
        DareFord y = six();
        untilTheLast("sure(120) of no set", SIX_MADE + 1, n -> y.sure(120), n -> DareFord.FINDING);
        Due.due("findings(4)", y.findings(NOUGHT), CALLS - SIX_MADE - 1);
    }

    private static void refusedToTheLast() {
        DareFord x = six();
        long digest = x.digest();
        untilTheLast("raise(0, 10)", SIX_MADE + 2, n -> x.raise(0, 10), n -> DareFord.BAD);
        Due.due("digest() behind refusals", x.digest(), digest);
        DareFord y = new DareFord();
        untilTheLast("night() without PEOPLE", 0, n -> y.night(), n -> DareFord.STATE);
        DareFord z = six();
        for (int n = 0; n < 40; n++) {
            z.night();
        }
        untilTheLast("night(), full", SIX_MADE + 41, n -> z.night(), n -> DareFord.FULL);
        Due.due("count(1) behind refusals", z.count(1), 40);
    }

    // ---- objects by turns

    /** Two that do unlike things by turns answer as two that do the same, each alone. */
    private static void objectsByTurns() {
        DareFord a = new DareFord();
        DareFord b = new DareFord();
        DareFord alone = new DareFord();
        DareFord other = new DareFord();
        Due.write(alone, 0, SIX);
        Due.write(other, 1, "f9 b020 p907");
        Due.write(a, 0, SIX);
        Due.write(b, 1, "f9 b020 p907");
        int[] answers = new int[40];
        for (int n = 0; n < 20; n++) {
            answers[n] = stepOfOne(alone, n);
        }
        for (int n = 0; n < 20; n++) {
            answers[20 + n] = stepOfOther(other, n);
        }
        for (int n = 0; n < 20; n++) {
            Due.due("the one, step " + n, stepOfOne(a, n), answers[n]);
            Due.due("the other, step " + n, stepOfOther(b, n), answers[20 + n]);
        }
        alike("the one", a, alone);
        alike("the other", b, other);
    }

    private static int stepOfOne(DareFord x, int n) {
        switch (n % 5) {
            case 0: return n == 0 ? x.river(0) : x.night();
            case 1: return x.keep(n % 3);
            case 2: return x.row(n % 6, n);
            case 3: return asked(x, x.at(n % 6, 0));
            default: return x.odds(4, n % 13);
        }
    }

    private static int stepOfOther(DareFord x, int n) {
        switch (n % 5) {
            case 0: return n == 0 ? x.river(1) : x.where(n);
            case 1: return x.cheap(1, n % 6);
            case 2: return x.door(0, n % 10);
            case 3: return x.on(n % 3);
            default: return x.mean(0);
        }
    }

    private static void alike(String which, DareFord got, DareFord want) {
        Due.due(which + ": digest()", got.digest(), want.digest());
        Due.due(which + ": asked()", got.asked(), want.asked());
        Due.due(which + ": upper()", got.upper(), want.upper());
        Due.due(which + ": lower()", got.lower(), want.lower());
        Due.due(which + ": finding()", got.finding(), want.finding());
        for (int f = 1; f <= 5; f++) {
            Due.due(which + ": findings(" + f + ")", got.findings(f), want.findings(f));
        }
    }

    /** A new one is as new, however many there were and whatever they did. */
    private static void manyObjects() {
        long fresh = new DareFord().digest();
        for (int n = 0; n < 200; n++) {
            DareFord x = six();
            x.night();
            x.keep(n % 3);
            x.row(n % 6, n % 41);
            x.mean(n % 6);
            x.sets(9);
            DareFord y = new DareFord();
            Due.due("digest() of a new one", y.digest(), fresh);
            Due.due("asked() of a new one", y.asked(), 0);
            Due.ratio(y, "a new one", 0, 1);
            Due.due("finding() of a new one", y.finding(), 0);
            Due.due("on(n % 3) of a new one", y.on(n % 3), DareFord.FINDING);
        }
    }
}
