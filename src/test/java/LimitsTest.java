import java.util.function.Supplier;

/**
 * For each number that a call takes: the least and the greatest that are allowed are not BAD, those beside
 * them and the farthest off are what the document says of them, and change nothing.
 */
public final class LimitsTest {
    private static final int BAD = DareFord.BAD;
    private static final int BEYOND = 2, UNLIKE = 3, SIZE = 5;
    private static final String SIX = "f4 p109 d705 e312 b008 t914 q602", ALONE = "f4 t109";

    private interface Call {
        int make(DareFord x, int v);
    }

    public static void main(String[] args) {
        rows();
        copies();
        texts();
        people(6, LimitsTest::six);
        people(1, LimitsTest::alone);
        kindsAndTellings();
        deeds();
        undone(0);
        undone(1);
        undone(40);
        rivers();
        aside();
        sets();
        duels();
        chances();
        lots();
        told();
        Due.end();
    }

    /** From least to most it is not BAD; beside them and farthest off it is. */
    private static void limits(String call, Supplier<DareFord> made, int least, int most, Call one) {
        allowed(call, made, least, one);
        allowed(call, made, most, one);
        bad(call, made, least - 1, one);
        bad(call, made, Integer.MIN_VALUE, one);
        bad(call, made, most + 1, one);
        bad(call, made, Integer.MAX_VALUE, one);
    }

    private static void allowed(String call, Supplier<DareFord> made, int v, Call one) {
        int answer = one.make(made.get(), v);
        Due.due(call + " with " + v + ", BAD", answer == BAD ? 1 : 0, 0);
    }

    private static void bad(String call, Supplier<DareFord> made, int v, Call one) {
        DareFord x = made.get();
        Due.refused(x, call + " with " + v, BAD, () -> one.make(x, v));
    }

    private static void finds(String call, int finding, Supplier<DareFord> made, Call one, int... vs) {
        for (int v : vs) {
            DareFord x = made.get();
            Due.finds(x, call + " with " + v, finding, () -> one.make(x, v));
        }
    }

    private static void fits(String call, Supplier<DareFord> made, Call one, int... vs) {
        for (int v : vs) {
            Due.due(call + " with " + v + ", refused", one.make(made.get(), v) == DareFord.FINDING ? 1 : 0, 0);
        }
    }

    // ---- states

    /** All ROWS (of one int) and TEXTS (of ten bytes) are there, all places have a kept RIVER. */
    private static DareFord filled(String text) {
        DareFord x = Due.river(text);
        for (int r = 0; r < 6; r++) {
            x.row(r, 1);
        }
        for (int t = 0; t < 4; t++) {
            Due.write(x, t, "  f4 p120 ");
        }
        for (int k = 0; k < 3; k++) {
            x.keep(k);
        }
        return x;
    }

    private static DareFord six() {
        return filled(SIX);
    }

    private static DareFord alone() {
        return filled(ALONE);
    }

    /** DARINGS 9 to 11: by 9 each can be raised and shamed. */
    private static DareFord middling() {
        return filled("f4 p109 d710 e311 b009 t910 q611");
    }

    private static DareFord ofRow(int n) {
        DareFord x = filled(SIX);
        x.row(3, n);
        return x;
    }

    private static DareFord ofText(int n) {
        DareFord x = filled(SIX);
        x.text(2, n);
        return x;
    }

    // ---- promises 2 to 7

    private static void rows() {
        limits("row(r, 2)", LimitsTest::six, 0, 5, (x, r) -> x.row(r, 2));
        limits("lay(r, 0, 2)", LimitsTest::six, 0, 5, (x, r) -> x.lay(r, 0, 2));
        limits("at(r, 0)", LimitsTest::six, 0, 5, (x, r) -> x.at(r, 0));
        limits("tear(r)", LimitsTest::six, 0, 5, (x, r) -> x.tear(r));
        limits("mean(r)", LimitsTest::six, 0, 5, (x, r) -> x.mean(r));
        Due.due("row(3, 0)", six().row(3, 0), 0);
        Due.due("row(3, 40)", six().row(3, 40), 40);
        bad("row(3, n)", LimitsTest::six, 41, (x, n) -> x.row(3, n));
        bad("row(3, n)", LimitsTest::six, Integer.MAX_VALUE, (x, n) -> x.row(3, n));
        finds("row(3, n)", SIZE, LimitsTest::six, (x, n) -> x.row(3, n), -1, Integer.MIN_VALUE);
        for (int size : new int[] {1, 2, 40}) {
            placesOfRow(() -> ofRow(size), size);
        }
        finds("lay(3, i, 2) of a row of 0", BEYOND, () -> ofRow(0), (x, i) -> x.lay(3, i, 2), -1, 0, 1, 40);
        finds("at(3, i) of a row of 0", BEYOND, () -> ofRow(0), (x, i) -> x.at(3, i), -1, 0, 1, 40);
    }

    private static void placesOfRow(Supplier<DareFord> made, int size) {
        int[] none = {-1, Integer.MIN_VALUE, size, Integer.MAX_VALUE};
        fits("lay(3, i, 2)", made, (x, i) -> x.lay(3, i, 2), 0, size - 1);
        finds("lay(3, i, 2)", BEYOND, made, (x, i) -> x.lay(3, i, 2), none);
        fits("at(3, i)", made, (x, i) -> x.at(3, i), 0, size - 1);
        finds("at(3, i)", BEYOND, made, (x, i) -> x.at(3, i), none);
    }

    /** ROW 3 has 5 ints, the others have one. */
    private static void copies() {
        Supplier<DareFord> made = () -> ofRow(5);
        int far = Integer.MAX_VALUE;
        limits("copy(r, 0, 1, 0, 1)", made, 0, 5, (x, r) -> x.copy(r, 0, 1, 0, 1));
        limits("copy(1, 0, to, 0, 1)", made, 0, 5, (x, r) -> x.copy(1, 0, r, 0, 1));
        finds("copy(3, 0, 3, 0, n)", SIZE, made, (x, n) -> x.copy(3, 0, 3, 0, n), -1, Integer.MIN_VALUE);
        fits("copy(3, 0, 3, 0, n)", made, (x, n) -> x.copy(3, 0, 3, 0, n), 0, 1, 5);
        finds("copy(3, 0, 3, 0, n)", BEYOND, made, (x, n) -> x.copy(3, 0, 3, 0, n), 6, far);
        for (int n = 0; n <= 5; n++) {
            int many = n;
            int[] none = {-1, Integer.MIN_VALUE, 6 - n, far};
            fits("copy(3, i, 3, 0, " + n + ")", made, (x, i) -> x.copy(3, i, 3, 0, many), 0, 5 - n);
            finds("copy(3, i, 3, 0, " + n + ")", BEYOND, made, (x, i) -> x.copy(3, i, 3, 0, many), none);
            fits("copy(3, 0, 3, j, " + n + ")", made, (x, j) -> x.copy(3, 0, 3, j, many), 0, 5 - n);
            finds("copy(3, 0, 3, j, " + n + ")", BEYOND, made, (x, j) -> x.copy(3, 0, 3, j, many), none);
        }
        finds("copy(3, 0, 1, 0, n) to fewer", BEYOND, made, (x, n) -> x.copy(3, 0, 1, 0, n), 2, 5);
        finds("copy(1, 0, 3, 0, n) of fewer", BEYOND, made, (x, n) -> x.copy(1, 0, 3, 0, n), 2, 5);
    }

    // ---- promises 8 to 11

    private static void texts() {
        limits("text(t, 2)", LimitsTest::six, 0, 3, (x, t) -> x.text(t, 2));
        limits("put(t, 0, 2)", LimitsTest::six, 0, 3, (x, t) -> x.put(t, 0, 2));
        limits("fault(t)", LimitsTest::six, 0, 3, (x, t) -> x.fault(t));
        limits("river(t)", LimitsTest::six, 0, 3, (x, t) -> x.river(t));
        Due.due("text(2, 0)", six().text(2, 0), 0);
        Due.due("text(2, 60)", six().text(2, 60), 60);
        bad("text(2, n)", LimitsTest::six, 61, (x, n) -> x.text(2, n));
        bad("text(2, n)", LimitsTest::six, Integer.MAX_VALUE, (x, n) -> x.text(2, n));
        finds("text(2, n)", SIZE, LimitsTest::six, (x, n) -> x.text(2, n), -1, Integer.MIN_VALUE);
        for (int size : new int[] {1, 2, 60}) {
            int[] none = {-1, Integer.MIN_VALUE, size, Integer.MAX_VALUE};
            fits("put(2, i, 7)", () -> ofText(size), (x, i) -> x.put(2, i, 7), 0, size - 1);
            finds("put(2, i, 7)", BEYOND, () -> ofText(size), (x, i) -> x.put(2, i, 7), none);
        }
        finds("put(2, i, 7) of a text of 0", BEYOND, () -> ofText(0), (x, i) -> x.put(2, i, 7), -1, 0, 1, 60);
    }

    // ---- one of people, by whichever call

    private static void people(int people, Supplier<DareFord> made) {
        int last = people - 1;
        for (int what = 0; what <= 5; what++) {
            int tell = what;
            limits("one(i, " + what + ")", made, 0, last, (x, i) -> x.one(i, tell));
        }
        for (int kind = 1; kind <= 5; kind++) {
            int of = kind;
            limits("mark(i, " + kind + ")", made, 0, last, (x, i) -> x.mark(i, of));
        }
        limits("raise(i, 1)", made, 0, last, (x, i) -> x.raise(i, 1));
        limits("shame(i, 1)", made, 0, last, (x, i) -> x.shame(i, 1));
        limits("door(i, 5)", made, 0, last, (x, i) -> x.door(i, 5));
        limits("dares(i, 1, 1, 1)", made, 0, last, (x, i) -> x.dares(i, 1, 1, 1));
        limits("crosses(i, 1)", made, 0, last, (x, i) -> x.crosses(i, 1));
        limits("first(i)", made, 0, last, (x, i) -> x.first(i));
        limits("lift(i, 1)", made, 0, last, (x, i) -> x.lift(i, 1));
        limits("cheap(i, 1)", made, 0, last, (x, i) -> x.cheap(i, 1));
        limits("darings(i, 1)", made, 0, last, (x, i) -> x.darings(i, 1));
        limits("kinds(i, 1)", made, 0, last, (x, i) -> x.kinds(i, 1));
        limits("look(i, 1)", made, 0, last, (x, i) -> x.look(i, 1));
        limits("odds(i, 1)", made, 0, last, (x, i) -> x.odds(i, 1));
        Call named = (x, who) -> {
            x.lay(2, 0, who);
            return x.kinds(0, 2);
        };
        fits("a row's int", made, named, 0, last);
        for (int who : new int[] {-1, people, 6, Integer.MIN_VALUE, Integer.MAX_VALUE}) {
            DareFord x = made.get();
            x.lay(2, 0, who);
            Due.finds(x, "darings by " + who, UNLIKE, () -> x.darings(0, 2));
            Due.finds(x, "kinds by " + who, UNLIKE, () -> x.kinds(0, 2));
            Due.finds(x, "look by " + who, UNLIKE, () -> x.look(0, 2));
        }
    }

    // ---- promises 12, 13

    private static void kindsAndTellings() {
        limits("one(3, what)", LimitsTest::six, 0, 5, (x, what) -> x.one(3, what));
        for (int i = 0; i < 6; i++) {
            int who = i;
            limits("mark(" + i + ", kind)", LimitsTest::six, 1, 5, (x, kind) -> x.mark(who, kind));
        }
    }

    // ---- promises 14 to 20

    private static void deeds() {
        for (int i = 0; i < 6; i++) {
            int who = i;
            limits("raise(" + i + ", n)", LimitsTest::middling, 1, 9, (x, n) -> x.raise(who, n));
            limits("shame(" + i + ", n)", LimitsTest::middling, 1, 9, (x, n) -> x.shame(who, n));
            limits("door(" + i + ", place)", LimitsTest::middling, 0, 9, (x, place) -> x.door(who, place));
        }
        Due.due("raise(0, 9)", middling().raise(0, 9), 18);
        Due.due("raise(0, 1)", middling().raise(0, 1), 10);
        Due.due("shame(0, 9)", middling().shame(0, 9), 0);
        Due.due("shame(0, 1)", middling().shame(0, 1), 8);
        Due.due("door(0, 0)", middling().door(0, 0), 1);
        Due.due("door(0, 9)", middling().door(0, 9), 1);
    }

    private static void undone(int deeds) {
        Supplier<DareFord> made = () -> {
            DareFord x = six();
            for (int d = 0; d < deeds; d++) {
                x.night();
            }
            return x;
        };
        limits("undo(n) of " + deeds, made, 0, deeds, (x, n) -> x.undo(n));
        Due.due("undo(0) of " + deeds, made.get().undo(0), deeds);
        Due.due("undo(" + deeds + ")", made.get().undo(deeds), 0);
    }

    private static void rivers() {
        limits("keep(k)", LimitsTest::six, 0, 2, (x, k) -> x.keep(k));
        limits("on(k)", LimitsTest::six, 0, 2, (x, k) -> x.on(k));
    }

    // ---- promises 21 to 29

    private static void aside() {
        limits("dares(1, daring, 3, 3)", LimitsTest::six, 0, 20, (x, daring) -> x.dares(1, daring, 3, 3));
        limits("dares(1, 3, number, 3)", LimitsTest::six, 0, 99, (x, number) -> x.dares(1, 3, number, 3));
        limits("dares(4, 3, 3, far)", LimitsTest::six, 0, 9, (x, far) -> x.dares(4, 3, 3, far));
        limits("where(n)", LimitsTest::six, 0, 40, (x, n) -> x.where(n));
        limits("crosses(4, n)", LimitsTest::six, 0, 40, (x, n) -> x.crosses(4, n));
        limits("lift(4, n)", LimitsTest::six, 1, 20, (x, n) -> x.lift(4, n));
        limits("cheap(4, r)", LimitsTest::six, 0, 5, (x, r) -> x.cheap(4, r));
        limits("darings(4, r)", LimitsTest::six, 0, 5, (x, r) -> x.darings(4, r));
        limits("kinds(4, r)", LimitsTest::six, 0, 5, (x, r) -> x.kinds(4, r));
        limits("look(4, r)", LimitsTest::six, 0, 5, (x, r) -> x.look(4, r));
        Call darings = (x, n) -> x.darings(4, sized(x, n));
        Call kinds = (x, n) -> x.kinds(4, sized(x, n));
        Call look = (x, n) -> x.look(4, sized(x, n));
        fits("darings by a row of", LimitsTest::six, darings, 1, 10);
        fits("kinds by a row of", LimitsTest::six, kinds, 1, 10);
        fits("look by a row of", LimitsTest::six, look, 1, 10);
        for (int size : new int[] {0, 11, 40}) {
            Supplier<DareFord> made = () -> ofRow(size);
            finds("darings by a row of " + size, SIZE, made, (x, i) -> x.darings(i, 3), 0, 5);
            finds("kinds by a row of " + size, SIZE, made, (x, i) -> x.kinds(i, 3), 0, 5);
            finds("look by a row of " + size, SIZE, made, (x, i) -> x.look(i, 3), 0, 5);
        }
    }

    private static int sized(DareFord x, int n) {
        x.row(5, n);
        return 5;
    }

    // ---- promises 30 to 36

    private static void sets() {
        Supplier<DareFord> most = () -> filled("f4 p120 d720 e320 b020 t920 q620");
        limits("sets(v)", LimitsTest::six, 0, 120, (x, v) -> x.sets(v));
        limits("sure(v)", most, 0, 120, (x, v) -> x.sure(v));
        Due.due("sure(120)", most.get().sure(120), 63);
        Due.due("sure(0)", most.get().sure(0), 0);
    }

    private static void duels() {
        limits("duel(i, 3, 1)", LimitsTest::six, 0, 5, (x, i) -> x.duel(i, 3, 1));
        limits("duel(3, j, 1)", LimitsTest::six, 0, 5, (x, j) -> x.duel(3, j, 1));
        limits("duel(1, 3, n)", LimitsTest::six, 0, 3, (x, n) -> x.duel(1, 3, n));
        for (int i = 0; i < 6; i++) {
            bad("duel(i, i, 1)", LimitsTest::six, i, (x, who) -> x.duel(who, who, 1));
        }
        bad("duel(0, j, 1) of one alone", LimitsTest::alone, 1, (x, j) -> x.duel(0, j, 1));
        bad("duel(0, j, 1) of one alone", LimitsTest::alone, 0, (x, j) -> x.duel(0, j, 1));
    }

    private static void chances() {
        limits("odds(4, p)", LimitsTest::six, 0, 12, (x, p) -> x.odds(4, p));
        limits("mid(place, 5)", LimitsTest::six, 0, 9, (x, place) -> x.mid(place, 5));
        limits("mid(5, p)", LimitsTest::six, 0, 12, (x, p) -> x.mid(5, p));
        limits("fair(p)", LimitsTest::six, 0, 12, (x, p) -> x.fair(p));
    }

    private static void lots() {
        limits("lots(n, 5)", LimitsTest::six, 1, 20, (x, n) -> x.lots(n, 5));
        int most = Integer.MAX_VALUE - 1;
        allowed("lots(5, seed)", LimitsTest::six, 1, (x, seed) -> x.lots(5, seed));
        allowed("lots(5, seed)", LimitsTest::six, most, (x, seed) -> x.lots(5, seed));
        for (int seed : new int[] {0, -1, Integer.MIN_VALUE, Integer.MAX_VALUE}) {
            bad("lots(5, seed)", LimitsTest::six, seed, (x, by) -> x.lots(5, by));
        }
    }

    // ---- promises 40, 42

    private static void told() {
        limits("count(what)", LimitsTest::six, 0, 11, (x, what) -> x.count(what));
        limits("findings(f)", LimitsTest::six, 1, 5, (x, f) -> x.findings(f));
    }
}
