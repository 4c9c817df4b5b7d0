import java.util.function.Supplier;

/**
 * The order of refusals where two fit at once; and that what is refused changes nothing but finding() and
 * findings(): a twin that was not asked it answers alike from then on, DEEDS undone and kept RIVERS too.
 */
public final class RefusalsTest {
    private static final int BAD = DareFord.BAD, FULL = DareFord.FULL, STATE = DareFord.STATE;
    private static final int NONE = DareFord.NONE, FINDING = DareFord.FINDING;
    private static final int NOTHING = 1, BEYOND = 2, UNLIKE = 3, NOUGHT = 4, SIZE = 5;

    private interface Call {
        int make(DareFord x);
    }

    public static void main(String[] args) {
        badAheadOfFindings();
        inCopysOrder();
        findingsInOrder();
        badAheadOfUnlike();
        badAheadOfState();
        badAheadOfFull();
        stateAheadOfFull();
        fullAlone();
        stateAheadOfNought();
        stateOfRivers();
        behindBadByRows();
        countedEachTime();
        Due.end();
    }

    // ---- states

    private static DareFord fresh() {
        return new DareFord();
    }

    /** ROWS 0 (3 ints), 1 (none), 2 (11) and 4 (naming nobody there is), TEXTS 0 and 1; the others are missing. */
    private static DareFord some() {
        DareFord x = Due.river("f4 p120 d700 e312 b008 t914 q602");
        Due.write(x, 0, 5, 6, 7);
        x.row(1, 0);
        x.row(2, 11);
        x.lay(2, 3, 77);
        Due.write(x, 4, 0, 6);
        Due.write(x, 1, "f4 p1");
        x.night();
        x.keep(1);
        x.door(2, 8);
        x.raise(1, 3);
        x.shame(4, 2);
        x.keep(2);
        x.odds(0, 5);
        x.at(0, 1);
        return x;
    }

    /** 40 DEEDS; the first one's DARING is 20, the second one's 0. */
    private static DareFord full() {
        DareFord x = some();
        for (int d = x.count(2); d < 37; d++) {
            x.door(3, 1 - d % 2);
        }
        Due.due("DEEDS so far", x.count(2), 37);
        Due.due("raised to", x.raise(0, 2), 20);
        Due.due("shamed to", x.shame(1, 3), 0);
        x.keep(0);
        x.night();
        x.undo(39);
        x.door(3, 7);
        Due.due("DEEDS, full", x.count(2), 40);
        return x;
    }

    // ---- refusing

    private static void refused(String call, Supplier<DareFord> made, int want, Call one) {
        DareFord x = made.get();
        Due.refused(x, call, want, () -> one.make(x));
        goesOnAlike(call, x, made.get());
    }

    private static void finds(String call, Supplier<DareFord> made, int finding, Call one) {
        DareFord x = made.get();
        Due.finds(x, call, finding, () -> one.make(x));
        goesOnAlike(call, x, made.get());
    }

    private static void goesOnAlike(String call, DareFord x, DareFord twin) {
        Due.due(call + ": asked()", x.asked(), twin.asked());
        Due.due(call + ": upper()", x.upper(), twin.upper());
        Due.due(call + ": lower()", x.lower(), twin.lower());
        Due.due(call + ": digest()", x.digest(), twin.digest());
        Due.due(call + ": then where(9)", x.where(9), twin.where(9));
        Due.due(call + ": then night()", x.night(), twin.night());
        undoneAlike(call, x, twin);
        for (int k = 0; k < 3; k++) {
            int deeds = x.on(k);
            Due.due(call + ": then on(" + k + ")", deeds, twin.on(k));
            if (deeds >= 0) {
                undoneAlike(call + ": on(" + k + ")", x, twin);
            }
        }
    }

    private static void undoneAlike(String call, DareFord x, DareFord twin) {
        for (int n = x.count(2); n >= 0; n--) {
            Due.due(call + ": then undo(" + n + ")", x.undo(n), twin.undo(n));
            Due.due(call + ": then digest() of " + n + " deeds", x.digest(), twin.digest());
        }
    }

    // ---- BAD, FINDING

    private static void badAheadOfFindings() {
        refused("row(6, -1): BAD, SIZE", RefusalsTest::some, BAD, x -> x.row(6, -1));
        refused("row(-1, -1): BAD, SIZE", RefusalsTest::some, BAD, x -> x.row(-1, -1));
        refused("row(3, 41): BAD", RefusalsTest::some, BAD, x -> x.row(3, 41));
        refused("row(0, 41): BAD, the row stays", RefusalsTest::some, BAD, x -> x.row(0, 41));
        finds("row(0, -1): SIZE, the row stays", RefusalsTest::some, SIZE, x -> x.row(0, -1));
        refused("lay(6, -1, 3): BAD, BEYOND", RefusalsTest::some, BAD, x -> x.lay(6, -1, 3));
        refused("at(-1, 99): BAD, BEYOND", RefusalsTest::some, BAD, x -> x.at(-1, 99));
        refused("tear(6): BAD, NOTHING", RefusalsTest::some, BAD, x -> x.tear(6));
        finds("tear(3): NOTHING", RefusalsTest::some, NOTHING, x -> x.tear(3));
        refused("mean(6): BAD, NOTHING", RefusalsTest::some, BAD, x -> x.mean(6));
        finds("mean(1): NOUGHT", RefusalsTest::some, NOUGHT, x -> x.mean(1));
        finds("mean(3): NOTHING", RefusalsTest::some, NOTHING, x -> x.mean(3));
        refused("text(4, -1): BAD, SIZE", RefusalsTest::some, BAD, x -> x.text(4, -1));
        refused("text(0, 61): BAD, the text stays", RefusalsTest::some, BAD, x -> x.text(0, 61));
        finds("text(0, -1): SIZE, the text stays", RefusalsTest::some, SIZE, x -> x.text(0, -1));
        refused("put(4, -1, 3): BAD, BEYOND", RefusalsTest::some, BAD, x -> x.put(4, -1, 3));
        refused("fault(-1): BAD, NOTHING", RefusalsTest::some, BAD, x -> x.fault(-1));
        refused("river(4): BAD, NOTHING", RefusalsTest::some, BAD, x -> x.river(4));
        refused("on(3): BAD, NOTHING", RefusalsTest::some, BAD, x -> x.on(3));
        finds("on(0): NOTHING", RefusalsTest::some, NOTHING, x -> x.on(0));
    }

    /** BAD; SIZE; NOTHING; BEYOND. */
    private static void inCopysOrder() {
        refused("copy: BAD by r, SIZE", RefusalsTest::some, BAD, x -> x.copy(6, 0, 0, 0, -1));
        refused("copy: BAD by to, SIZE", RefusalsTest::some, BAD, x -> x.copy(0, 0, -1, 0, -1));
        refused("copy: BAD by r, NOTHING by to", RefusalsTest::some, BAD, x -> x.copy(-1, 0, 3, 0, 1));
        refused("copy: BAD by to, NOTHING by r", RefusalsTest::some, BAD, x -> x.copy(3, 0, 6, 0, 1));
        refused("copy: BAD by to, BEYOND by i", RefusalsTest::some, BAD, x -> x.copy(0, 9, 6, 0, 1));
        finds("copy: SIZE, NOTHING by r", RefusalsTest::some, SIZE, x -> x.copy(3, 0, 0, 0, -1));
        finds("copy: SIZE, NOTHING by to", RefusalsTest::some, SIZE, x -> x.copy(0, 0, 3, 0, -1));
        finds("copy: SIZE, BEYOND by i", RefusalsTest::some, SIZE, x -> x.copy(0, -1, 0, 0, -1));
        finds("copy: SIZE, BEYOND by j", RefusalsTest::some, SIZE, x -> x.copy(0, 0, 0, 9, -1));
        finds("copy: NOTHING by r, BEYOND by i", RefusalsTest::some, NOTHING, x -> x.copy(3, -1, 0, 0, 1));
        finds("copy: NOTHING by r, BEYOND by j", RefusalsTest::some, NOTHING, x -> x.copy(3, 0, 0, 9, 1));
        finds("copy: NOTHING by to, BEYOND by i", RefusalsTest::some, NOTHING, x -> x.copy(0, 9, 3, 0, 1));
        finds("copy: NOTHING by to, BEYOND by j", RefusalsTest::some, NOTHING, x -> x.copy(0, 0, 3, -1, 1));
        finds("copy: NOTHING by both", RefusalsTest::some, NOTHING, x -> x.copy(3, 0, 5, 0, 0));
        finds("copy: BEYOND, nothing is copied", RefusalsTest::some, BEYOND, x -> x.copy(0, 1, 0, 0, 3));
        finds("copy: BEYOND by j, nothing is copied", RefusalsTest::some, BEYOND, x -> x.copy(0, 0, 0, 1, 3));
        finds("copy: BEYOND by n alone", RefusalsTest::some, BEYOND, x -> x.copy(0, 0, 4, 0, 3));
    }

    private static void findingsInOrder() {
        finds("lay(3, -1, 5): NOTHING, BEYOND", RefusalsTest::some, NOTHING, x -> x.lay(3, -1, 5));
        finds("lay(0, 3, 5): BEYOND", RefusalsTest::some, BEYOND, x -> x.lay(0, 3, 5));
        finds("at(3, 99): NOTHING, BEYOND", RefusalsTest::some, NOTHING, x -> x.at(3, 99));
        finds("at(0, 3): BEYOND", RefusalsTest::some, BEYOND, x -> x.at(0, 3));
        finds("put(2, -1, 5): NOTHING, BEYOND", RefusalsTest::some, NOTHING, x -> x.put(2, -1, 5));
        finds("put(1, 5, 5): BEYOND", RefusalsTest::some, BEYOND, x -> x.put(1, 5, 5));
        finds("fault(2): NOTHING", RefusalsTest::some, NOTHING, x -> x.fault(2));
    }

    private static void badAheadOfUnlike() {
        refused("mark(0, 0): BAD, a PERSON", RefusalsTest::some, BAD, x -> x.mark(0, 0));
        refused("mark(0, 6): BAD", RefusalsTest::some, BAD, x -> x.mark(0, 6));
        refused("mark(6, 1): BAD", RefusalsTest::some, BAD, x -> x.mark(6, 1));
        finds("mark(0, 1): UNLIKE", RefusalsTest::some, UNLIKE, x -> x.mark(0, 1));
        finds("mark(3, 4): UNLIKE", RefusalsTest::some, UNLIKE, x -> x.mark(3, 4));
        finds("mark(2, 5): UNLIKE", RefusalsTest::some, UNLIKE, x -> x.mark(2, 5));
    }

    // ---- BAD, STATE

    private static void badAheadOfState() {
        refused("keep(3) without PEOPLE", RefusalsTest::fresh, BAD, x -> x.keep(3));
        refused("keep(-1) without PEOPLE", RefusalsTest::fresh, BAD, x -> x.keep(-1));
        refused("keep(0) without PEOPLE", RefusalsTest::fresh, STATE, x -> x.keep(0));
        refused("where(41) without PEOPLE", RefusalsTest::fresh, BAD, x -> x.where(41));
        refused("where(-1) without PEOPLE", RefusalsTest::fresh, BAD, x -> x.where(-1));
        refused("where(0) without PEOPLE", RefusalsTest::fresh, STATE, x -> x.where(0));
        refused("sets(121) without PEOPLE", RefusalsTest::fresh, BAD, x -> x.sets(121));
        refused("sets(-1) without PEOPLE", RefusalsTest::fresh, BAD, x -> x.sets(-1));
        refused("sets(0) without PEOPLE", RefusalsTest::fresh, STATE, x -> x.sets(0));
        refused("sure(121) without PEOPLE", RefusalsTest::fresh, BAD, x -> x.sure(121));
        refused("sure(-1) without PEOPLE", RefusalsTest::fresh, BAD, x -> x.sure(-1));
        refused("mid(10, 0) without PEOPLE", RefusalsTest::fresh, BAD, x -> x.mid(10, 0));
        refused("mid(0, 13) without PEOPLE", RefusalsTest::fresh, BAD, x -> x.mid(0, 13));
        refused("mid(0, 0) without PEOPLE", RefusalsTest::fresh, STATE, x -> x.mid(0, 0));
        refused("fair(13) without PEOPLE", RefusalsTest::fresh, BAD, x -> x.fair(13));
        refused("fair(0) without PEOPLE", RefusalsTest::fresh, STATE, x -> x.fair(0));
        refused("lots(0, 5) without PEOPLE", RefusalsTest::fresh, BAD, x -> x.lots(0, 5));
        refused("lots(5, 0) without PEOPLE", RefusalsTest::fresh, BAD, x -> x.lots(5, 0));
        refused("lots(5, 5) without PEOPLE", RefusalsTest::fresh, STATE, x -> x.lots(5, 5));
        refused("night() without PEOPLE", RefusalsTest::fresh, STATE, x -> x.night());
        refused("raise(0, 10), above 20", RefusalsTest::full, BAD, x -> x.raise(0, 10));
        refused("shame(1, 10), below 0", RefusalsTest::full, BAD, x -> x.shame(1, 10));
        refused("raise(0, 1), above 20", RefusalsTest::some, STATE, x -> x.raise(0, 3));
        refused("shame(1, 4), below 0", RefusalsTest::some, STATE, x -> x.shame(1, 4));
        refused("door(0, 1), there", RefusalsTest::some, STATE, x -> x.door(0, 1));
        refused("door(6, 1)", RefusalsTest::some, BAD, x -> x.door(6, 1));
    }

    // ---- FULL

    private static void badAheadOfFull() {
        refused("raise(6, 1), full", RefusalsTest::full, BAD, x -> x.raise(6, 1));
        refused("raise(2, 0), full", RefusalsTest::full, BAD, x -> x.raise(2, 0));
        refused("shame(-1, 1), full", RefusalsTest::full, BAD, x -> x.shame(-1, 1));
        refused("shame(0, 10), full", RefusalsTest::full, BAD, x -> x.shame(0, 10));
        refused("door(6, 1), full", RefusalsTest::full, BAD, x -> x.door(6, 1));
        refused("door(0, 10), full", RefusalsTest::full, BAD, x -> x.door(0, 10));
        refused("lots(21, 5), full", RefusalsTest::full, BAD, x -> x.lots(21, 5));
        refused("lots(0, 5), full", RefusalsTest::full, BAD, x -> x.lots(0, 5));
        refused("lots(5, 0), full", RefusalsTest::full, BAD, x -> x.lots(5, 0));
        refused("undo(41), full", RefusalsTest::full, BAD, x -> x.undo(41));
        refused("undo(-1), full", RefusalsTest::full, BAD, x -> x.undo(-1));
    }

    private static void stateAheadOfFull() {
        refused("raise(0, 1), full and above 20", RefusalsTest::full, STATE, x -> x.raise(0, 1));
        refused("shame(1, 1), full and below 0", RefusalsTest::full, STATE, x -> x.shame(1, 1));
        refused("door(3, 7), full and there", RefusalsTest::full, STATE, x -> x.door(3, 7));
    }

    private static void fullAlone() {
        refused("night(), full", RefusalsTest::full, FULL, x -> x.night());
        refused("raise(1, 1), full", RefusalsTest::full, FULL, x -> x.raise(1, 1));
        refused("shame(0, 1), full", RefusalsTest::full, FULL, x -> x.shame(0, 1));
        refused("door(3, 6), full", RefusalsTest::full, FULL, x -> x.door(3, 6));
        refused("lots(1, 5), full", RefusalsTest::full, FULL, x -> x.lots(1, 5));
        refused("lots(20, 5), full", RefusalsTest::full, FULL, x -> x.lots(20, 5));
    }

    // ---- NOUGHT, NOTHING, STATE

    /** Promise 31: BAD; STATE; NOUGHT. */
    private static void stateAheadOfNought() {
        refused("sure(120) without PEOPLE", RefusalsTest::fresh, STATE, x -> x.sure(120));
        refused("sure(0) without PEOPLE", RefusalsTest::fresh, STATE, x -> x.sure(0));
        refused("sure(121)", RefusalsTest::some, BAD, x -> x.sure(121));
        finds("sure(120)", RefusalsTest::some, NOUGHT, x -> x.sure(120));
    }

    private static void stateOfRivers() {
        refused("river(1), a FAULT", RefusalsTest::some, STATE, x -> x.river(1));
        finds("river(2), missing", RefusalsTest::some, NOTHING, x -> x.river(2));
        finds("river(0), missing, without PEOPLE", RefusalsTest::fresh, NOTHING, x -> x.river(0));
        refused("river(1), a FAULT, full", RefusalsTest::full, STATE, x -> x.river(1));
    }

    private interface Asking {
        int ask(DareFord x, int i, int r);
    }

    /** Promises 26 to 29: NOTHING; SIZE; UNLIKE; all behind BAD. */
    private static void behindBadByRows() {
        behindBad("darings", (x, i, r) -> x.darings(i, r));
        behindBad("kinds", (x, i, r) -> x.kinds(i, r));
        behindBad("look", (x, i, r) -> x.look(i, r));
        refused("cheap(6, 0): the row stays", RefusalsTest::some, BAD, x -> x.cheap(6, 0));
        refused("cheap(0, 6)", RefusalsTest::some, BAD, x -> x.cheap(0, 6));
        refused("cheap(0, 0) without PEOPLE", RefusalsTest::fresh, BAD, x -> x.cheap(0, 0));
        refused("lift(0, 1) without PEOPLE", RefusalsTest::fresh, BAD, x -> x.lift(0, 1));
        refused("duel(0, 1, 1) without PEOPLE", RefusalsTest::fresh, BAD, x -> x.duel(0, 1, 1));
        refused("odds(0, 1) without PEOPLE", RefusalsTest::fresh, BAD, x -> x.odds(0, 1));
    }

    private static void behindBad(String name, Asking asking) {
        refused(name + ": BAD by i, NOTHING", RefusalsTest::some, BAD, x -> asking.ask(x, 6, 3));
        refused(name + ": BAD by i, SIZE", RefusalsTest::some, BAD, x -> asking.ask(x, -1, 1));
        refused(name + ": BAD by i, UNLIKE", RefusalsTest::some, BAD, x -> asking.ask(x, 6, 4));
        refused(name + ": BAD by r", RefusalsTest::some, BAD, x -> asking.ask(x, 0, 6));
        refused(name + ": BAD without PEOPLE, NOTHING", RefusalsTest::fresh, BAD, x -> asking.ask(x, 0, 0));
        finds(name + ": NOTHING", RefusalsTest::some, NOTHING, x -> asking.ask(x, 0, 3));
        finds(name + ": SIZE of 0", RefusalsTest::some, SIZE, x -> asking.ask(x, 0, 1));
        finds(name + ": SIZE of 11, UNLIKE", RefusalsTest::some, SIZE, x -> asking.ask(x, 0, 2));
        finds(name + ": UNLIKE at its end", RefusalsTest::some, UNLIKE, x -> asking.ask(x, 0, 4));
        finds(name + ": UNLIKE at its begin", RefusalsTest::some, UNLIKE, x -> asking.ask(x, 0, 0));
    }

    /** Each FINDING is counted for itself, each time; NONE and the others that refuse are no FINDINGS. */
    private static void countedEachTime() {
        DareFord x = some();
        for (int n = 1; n <= 9; n++) {
            Due.due("tear(3)", x.tear(3), FINDING);
            Due.due("findings(1)", x.findings(NOTHING), n);
        }
        Due.due("on(0)", x.on(0), FINDING);
        Due.due("findings(1) by a RIVER", x.findings(NOTHING), 10);
        x.mean(1);
        Due.due("finding() behind another", x.finding(), NOUGHT);
        Due.due("lift(5, 1)", x.lift(5, 1), NONE);
        x.lots(21, 1);
        x.river(1);
        Due.due("finding() behind NONE, BAD, STATE", x.finding(), NOUGHT);
        int[] wants = {0, 10, 0, 0, 1, 0};
        for (int f = 1; f <= 5; f++) {
            Due.due("findings(" + f + ")", x.findings(f), wants[f]);
        }
        Due.write(x, 3, "f1 p505");
        Due.due("river(3)", x.river(3), 1);
        Due.due("finding() behind another river()", x.finding(), NOUGHT);
        Due.due("findings(1) behind another river()", x.findings(NOTHING), 10);
    }
}
