/** Promises 30 and 31: sets, sure. */
public final class SetsTest {
    private static final int BAD = DareFord.BAD, STATE = DareFord.STATE, NONE = DareFord.NONE;
    private static final int NOUGHT = 4;

    public static void main(String[] args) {
        sets();
        setsBehindOthers();
        sure();
        refused();
        Due.end();
    }

    private static void setsIs(DareFord x, int v, int many, int first) {
        Due.told(x, "sets(" + v + ")", x.sets(v), first);
        Due.ratio(x, "sets(" + v + ")", many, 1);
    }

    private static void sets() {
        DareFord x = Due.river("f4 p103 d202 e301 b401");
        setsIs(x, 0, 1, 0);
        setsIs(x, 1, 2, 4);
        setsIs(x, 2, 2, 2);
        setsIs(x, 3, 3, 1);
        setsIs(x, 4, 3, 5);
        setsIs(x, 7, 1, 15);
        setsIs(x, 8, 0, NONE);
        setsIs(x, 120, 0, NONE);
        DareFord most = Due.river("f4 p120 d220 e320 b420 t520 q620");
        setsIs(most, 120, 1, 63);
        setsIs(most, 60, 20, 7);
        DareFord none = Due.river("f4 p100 p100 p100");
        setsIs(none, 0, 8, 0);
    }

    private static void setsBehindOthers() {
        DareFord x = Due.river("f4 p103 d202");
        x.odds(0, 5);
        setsIs(x, 5, 1, 3);
        x.raise(0, 2);
        setsIs(x, 5, 1, 1);
    }

    private static void sureIs(DareFord x, int v, int in, int out) {
        Due.due("sure(" + v + ")", x.sure(v), in);
        Due.due("sure(" + v + ") by asked()", x.asked(), out);
    }

    private static void sure() {
        DareFord x = Due.river("f4 p103 d202 e301 b401");
        sureIs(x, 0, 0, 15);
        sureIs(x, 1, 0, 3);
        sureIs(x, 6, 3, 0);
        sureIs(x, 7, 15, 0);
        DareFord y = Due.river("f4 p105 p209 p300");
        sureIs(y, 5, 1, 2);
        sureIs(y, 14, 3, 0);
        sureIs(y, 0, 0, 3);
    }

    private static void refused() {
        DareFord x = Due.river("f4 p103 d202");
        x.sets(3);
        Due.refused(x, "sets(-1)", BAD, () -> x.sets(-1));
        Due.refused(x, "sets(121)", BAD, () -> x.sets(121));
        Due.refused(x, "sure(-1)", BAD, () -> x.sure(-1));
        Due.refused(x, "sure(121)", BAD, () -> x.sure(121));
        Due.finds(x, "sure(4)", NOUGHT, () -> x.sure(4));
        DareFord y = new DareFord();
        Due.refused(y, "sets(0) without PEOPLE", STATE, () -> y.sets(0));
        Due.refused(y, "sets(121) without PEOPLE", BAD, () -> y.sets(121));
        Due.refused(y, "sure(0) without PEOPLE", STATE, () -> y.sure(0));
        Due.refused(y, "sure(7) without PEOPLE", STATE, () -> y.sure(7));
        Due.refused(y, "sure(-1) without PEOPLE", BAD, () -> y.sure(-1));
    }
}
