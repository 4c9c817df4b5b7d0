import java.util.function.ToIntFunction;

/**
 * DEEDS at their edges (promises 14 to 20, 36): the 40th of each sort and one more, undone from each number on,
 * kept RIVERS before and after another river().
 */
public final class DeedEdgesTest {
    private static final int BAD = DareFord.BAD, FULL = DareFord.FULL, STATE = DareFord.STATE, NONE = DareFord.NONE;
    private static final int NOTHING = 1;
    private static final String SIX = "f4 p109 d705 e312 b008 t914 q602";

    public static void main(String[] args) {
        fortieth();
        nightsUntilFull();
        aheadOfFull();
        undoneFromEach();
        undoOfNone();
        undoneAndDoneAgain();
        undoneAndFadedAtNought();
        keptNone();
        keptForty();
        keptStaysAsItWas();
        keptOnceMore();
        keptInEachPlace();
        keptGoByAnotherRiver();
        keptStayByOneRefused();
        keptAfterAnotherRiver();
        undoBehindOn();
        Due.end();
    }

    private static DareFord after(int deeds) {
        DareFord x = Due.river(SIX);
        for (int d = 0; d < deeds; d++) {
            x.door(0, d % 2 == 0 ? 2 : 1);
        }
        Due.due("DEEDS so far", x.count(2), deeds);
        return x;
    }

    // ---- the 40th and one more

    private static void fortieth() {
        fortiethBy("night()", 4, x -> x.night());
        fortiethBy("raise(0, 9)", 18, x -> x.raise(0, 9));
        fortiethBy("shame(1, 5)", 0, x -> x.shame(1, 5));
        fortiethBy("door(2, 9)", 3, x -> x.door(2, 9));
        fortiethBy("lots(1, 2)", 4, x -> x.lots(1, 2));
    }

    private static void fortiethBy(String call, int want, ToIntFunction<DareFord> deed) {
        DareFord x = after(39);
        long digest = x.digest();
        Due.due(call + ", the 40th", deed.applyAsInt(x), want);
        Due.due(call + ", the 40th: DEEDS", x.count(2), 40);
        Due.due("undo(39) behind it", x.undo(39), 1);
        Due.due("digest() of 39 again", x.digest(), digest);
        DareFord y = after(40);
        Due.refused(y, call + ", one more", FULL, () -> deed.applyAsInt(y));
        Due.due(call + ", refused: DEEDS", y.count(2), 40);
        Due.due("undo(40) of 40", y.undo(40), 0);
        Due.refused(y, call + ", one more still", FULL, () -> deed.applyAsInt(y));
        Due.due("undo(0) of 40", y.undo(0), 40);
        Due.due(call + ", the first", deed.applyAsInt(y), want);
    }

    private static void nightsUntilFull() {
        DareFord x = Due.river("f4 b120 q700");
        int bred = 0;
        for (int d = 0; d < 40; d++) {
            Due.due("count(1), the next NIGHT's number", x.count(1), d);
            bred += x.night() == 0 ? 1 : 0;
        }
        Due.due("count(1) behind 40 NIGHTS", x.count(1), 40);
        Due.due("count(6) behind 40 NIGHTS", x.count(6), 40);
        Due.told(x, "how often the first", x.one(0, 4), bred);
        Due.refused(x, "night(), one more", FULL, x::night);
        Due.due("count(1) behind it", x.count(1), 40);
    }

    /** What comes is told aside, also 40 NIGHTS behind 40 DEEDS; keep, on, undo are no DEEDS. */
    private static void aheadOfFull() {
        DareFord x = after(40);
        DareFord y = after(0);
        Due.due("where(40), full", x.where(40), y.where(40));
        Due.due("crosses(4, 40), full", x.crosses(4, 40), y.crosses(4, 40));
        Due.due("first(4), full", x.first(4), 1);
        Due.due("lift(0, 20), full", x.lift(0, 20), y.lift(0, 20));
        Due.due("cheap(4, 0), full", x.cheap(4, 0), 0);
        Due.due("keep(0), full", x.keep(0), 40);
        Due.due("on(0), full", x.on(0), 40);
        Due.due("undo(40), full", x.undo(40), 0);
    }

    // ---- undone

    private static long[] digestsOf(DareFord x) {
        long[] digests = new long[9];
        digests[0] = x.digest();
        digests[1] = done(x, x.night());
        digests[2] = done(x, x.raise(5, 9));
        digests[3] = done(x, x.door(2, 8));
        digests[4] = done(x, x.shame(4, 7));
        digests[5] = done(x, x.night());
        digests[6] = done(x, x.lots(1, 77));
        digests[7] = done(x, x.night());
        digests[8] = done(x, x.door(0, 0));
        return digests;
    }

    private static long done(DareFord x, int answer) {
        Due.due("a DEED, refused", answer >= 0 ? 0 : 1, 0);
        return x.digest();
    }

    /** From number n on: 0 to how many there are. */
    private static void undoneFromEach() {
        for (int n = 0; n <= 8; n++) {
            DareFord x = Due.river(SIX);
            long[] digests = digestsOf(x);
            Due.refused(x, "undo(9) of 8", BAD, () -> x.undo(9));
            Due.refused(x, "undo(-1) of 8", BAD, () -> x.undo(-1));
            Due.due("undo(" + n + ") of 8", x.undo(n), 8 - n);
            Due.due("digest() behind undo(" + n + ")", x.digest(), digests[n]);
            Due.due("DEEDS behind undo(" + n + ")", x.count(2), n);
            int more = n + 1;
            Due.refused(x, "undo of more than there are then", BAD, () -> x.undo(more));
            Due.due("undo(0) then", x.undo(0), n);
            Due.due("digest() at first", x.digest(), digests[0]);
        }
    }

    private static void undoOfNone() {
        DareFord x = new DareFord();
        Due.due("undo(0) without PEOPLE", x.undo(0), 0);
        Due.refused(x, "undo(1) without PEOPLE", BAD, () -> x.undo(1));
        DareFord y = after(0);
        Due.due("undo(0) without DEEDS", y.undo(0), 0);
        Due.refused(y, "undo(1) without DEEDS", BAD, () -> y.undo(1));
    }

    private static void undoneAndDoneAgain() {
        DareFord x = Due.river(SIX);
        long[] digests = digestsOf(x);
        x.undo(1);
        x.raise(5, 9);
        x.door(2, 8);
        x.shame(4, 7);
        Due.due("digest() of DEEDS done again", x.digest(), digests[4]);
        x.undo(2);
        x.shame(4, 7);
        x.door(2, 8);
        Due.due("digest() of DEEDS in another order", x.digest(), digests[4]);
    }

    /** What was lost at 0 comes back as it was: DARING 1 of a FEARFUL one that faded by 2. */
    private static void undoneAndFadedAtNought() {
        DareFord x = Due.river("f4 e101 p700 b220");
        x.night();
        Due.told(x, "one(0, 2), faded", x.one(0, 2), 0);
        x.undo(0);
        Due.told(x, "one(0, 2), undone", x.one(0, 2), 1);
        Due.told(x, "one(1, 2), undone", x.one(1, 2), 0);
        Due.told(x, "one(2, 2), undone", x.one(2, 2), 20);
        Due.told(x, "one(2, 4), undone", x.one(2, 4), 0);
        Due.due("count(3), undone", x.count(3), 4);
        Due.due("count(1), undone", x.count(1), 0);
    }

    // ---- kept

    private static void keptNone() {
        DareFord x = Due.river(SIX);
        Due.finds(x, "on(0), missing", NOTHING, () -> x.on(0));
        Due.due("keep(0) of no DEEDS", x.keep(0), 0);
        long digest = x.digest();
        x.night();
        Due.due("on(0) of no DEEDS", x.on(0), 0);
        Due.due("digest() of no DEEDS", x.digest(), digest);
        DareFord y = new DareFord();
        Due.refused(y, "keep(0) without PEOPLE", STATE, () -> y.keep(0));
        Due.finds(y, "on(0) behind it", NOTHING, () -> y.on(0));
    }

    private static void keptForty() {
        DareFord x = after(40);
        Due.due("keep(2) of 40 DEEDS", x.keep(2), 40);
        long digest = x.digest();
        x.undo(0);
        x.night();
        Due.due("on(2) of 40 DEEDS", x.on(2), 40);
        Due.due("digest() of 40 DEEDS", x.digest(), digest);
        Due.refused(x, "night() behind on(2), full", FULL, x::night);
        Due.due("undo(39) behind on(2)", x.undo(39), 1);
        Due.due("on(2) of 40 DEEDS again", x.on(2), 40);
    }

    /** What is done behind keep(), and undone, is nothing to the kept one. */
    private static void keptStaysAsItWas() {
        DareFord x = Due.river(SIX);
        x.night();
        x.raise(0, 2);
        x.keep(1);
        long digest = x.digest();
        x.night();
        x.undo(0);
        x.shame(3, 3);
        x.door(3, 3);
        x.lots(20, 5);
        for (int time = 0; time < 3; time++) {
            Due.due("on(1)", x.on(1), 2);
            Due.due("digest() of the kept one", x.digest(), digest);
            x.undo(1);
            x.night();
            x.night();
        }
    }

    private static void keptOnceMore() {
        DareFord x = Due.river(SIX);
        x.raise(0, 1);
        x.raise(0, 1);
        Due.due("keep(0)", x.keep(0), 2);
        x.undo(0);
        x.shame(0, 4);
        Due.due("keep(0) once more", x.keep(0), 1);
        Due.due("count(11)", x.count(11), 1);
        x.night();
        Due.due("on(0)", x.on(0), 1);
        Due.told(x, "DARING by the latest", x.one(0, 2), 5);
        x.raise(0, 9);
        Due.due("undo(1)", x.undo(1), 1);
        Due.told(x, "DARING, undone", x.one(0, 2), 5);
    }

    private static void keptInEachPlace() {
        DareFord x = Due.river(SIX);
        long[] digests = new long[3];
        for (int k = 0; k < 3; k++) {
            x.door(0, 5 + k);
            Due.due("keep(k)", x.keep(k), k + 1);
            Due.due("count(11)", x.count(11), k + 1);
        }
        for (int k = 2; k >= 0; k--) {
            Due.due("on(k)", x.on(k), k + 1);
            Due.told(x, "DOOR by on(k)", x.one(0, 1), 5 + k);
            digests[k] = x.digest();
        }
        for (int k = 0; k < 3; k++) {
            x.on(k);
            Due.due("digest() by on(k)", x.digest(), digests[k]);
        }
    }

    // ---- kept, and another river

    private static void keptGoByAnotherRiver() {
        for (int t = 0; t <= 1; t++) {
            DareFord x = Due.river(SIX);
            x.night();
            for (int k = 0; k < 3; k++) {
                x.keep(k);
            }
            Due.due("count(11)", x.count(11), 3);
            Due.write(x, 1, "f9 b920");
            Due.due("another river()", x.river(t), t == 0 ? 6 : 1);
            Due.due("count(11) behind another river()", x.count(11), 0);
            for (int k = 0; k < 3; k++) {
                int place = k;
                Due.finds(x, "on(k) behind another river()", NOTHING, () -> x.on(place));
            }
        }
    }

    private static void keptStayByOneRefused() {
        DareFord x = Due.river(SIX);
        x.night();
        x.keep(2);
        x.night();
        Due.write(x, 1, "f9 b921");
        Due.refused(x, "river(1) of a FAULT", STATE, () -> x.river(1));
        Due.refused(x, "river(4)", BAD, () -> x.river(4));
        Due.finds(x, "river(3), missing", NOTHING, () -> x.river(3));
        Due.due("count(11)", x.count(11), 1);
        Due.due("fault(1)", x.fault(1), 5);
        Due.due("on(2) behind refusals", x.on(2), 1);
        Due.due("undo(0) behind refusals", x.undo(0), 1);
        Due.due("PEOPLE behind refusals", x.count(0), 6);
        Due.due("FORD behind refusals", x.count(3), 4);
    }

    /** A place is taken anew by the RIVER that is there now. */
    private static void keptAfterAnotherRiver() {
        DareFord x = Due.river(SIX);
        x.raise(0, 1);
        x.keep(0);
        Due.write(x, 0, "f9 b912 e007");
        x.river(0);
        x.night();
        Due.due("keep(0) of another river", x.keep(0), 1);
        x.door(1, 9);
        Due.due("on(0) of another river", x.on(0), 1);
        Due.due("PEOPLE", x.count(0), 2);
        Due.told(x, "DARING of the first", x.one(0, 2), 10);
        Due.told(x, "DOOR of the second", x.one(1, 1), 0);
        Due.due("count(3)", x.count(3), 9);
        Due.due("undo(0)", x.undo(0), 1);
        Due.told(x, "DARING of the first, undone", x.one(0, 2), 12);
        Due.told(x, "DARING of the second, undone", x.one(1, 2), 7);
    }

    /** DEEDS come with the RIVER that is gone on from: they are undone one by one. */
    private static void undoBehindOn() {
        DareFord x = Due.river(SIX);
        long[] digests = digestsOf(x);
        x.keep(1);
        x.undo(0);
        x.night();
        x.night();
        Due.due("on(1)", x.on(1), 8);
        x.river(9);
        long kept = x.digest();
        for (int n = 7; n >= 0; n--) {
            Due.due("undo(" + n + ") behind on(1)", x.undo(n), 1);
        }
        DareFord y = Due.river(SIX);
        Due.due("digest() but for what is kept", digests[0], y.digest());
        Due.due("on(1) behind undo(0)", x.on(1), 8);
        Due.due("digest() again", x.digest(), kept);
        Due.due("where(0)", x.where(0), x.count(3));
        Due.due("where(0) by asked()", x.asked(), NONE);
    }
}
