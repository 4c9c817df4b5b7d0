/** Promises 25 and 26: lift, cheap. */
public final class RaisingTest {
    private static final int BAD = DareFord.BAD, NONE = DareFord.NONE;

    public static void main(String[] args) {
        lift();
        liftOfTheQuiet();
        liftRefused();
        cheap();
        cheapOfLikeOnes();
        cheapRow();
        cheapNone();
        cheapRefused();
        Due.end();
    }

    private static void lift() {
        DareFord x = Due.river("f4 p109 b512");
        Due.due("lift(1, 1)", x.lift(1, 1), 0);
        Due.due("lift(0, 1)", x.lift(0, 1), 4);
        Due.due("lift(0, 2)", x.lift(0, 2), 3);
        long digest = x.digest();
        x.lift(0, 7);
        Due.due("digest() behind lift", x.digest(), digest);
        DareFord y = Due.river("f4 p118 b520 d619");
        Due.due("lift(0, 1) beyond 20", y.lift(0, 1), NONE);
        Due.due("lift(1, 1) beyond 20", y.lift(1, 1), NONE);
        Due.due("lift(2, 2)", y.lift(2, 2), NONE);
        DareFord nearer = Due.river("f4 p318 b620");
        Due.due("lift(0, 1) to 20, nearer", nearer.lift(0, 1), 2);
        DareFord late = Due.river("f4 b120 b120");
        Due.due("lift(1, 20)", late.lift(1, 20), 0);
        Due.due("lift(0, 20)", late.lift(0, 20), NONE);
    }

    private static void liftOfTheQuiet() {
        DareFord x = Due.river("f4 q305 p207 e302");
        Due.due("lift(0, 1) of a QUIET one", x.lift(0, 1), NONE);
        Due.due("lift(2, 1) of a FEARFUL one", x.lift(2, 1), 5);
        Due.due("lift(0, 2)", x.lift(0, 2), 0);
    }

    private static void liftRefused() {
        DareFord x = Due.river("f4 p109 b512");
        Due.refused(x, "lift(2, 1)", BAD, () -> x.lift(2, 1));
        Due.refused(x, "lift(-1, 1)", BAD, () -> x.lift(-1, 1));
        Due.refused(x, "lift(0, 0)", BAD, () -> x.lift(0, 0));
        Due.refused(x, "lift(0, 21)", BAD, () -> x.lift(0, 21));
    }

    private static void cheapIs(String text, int i, int want, int... row) {
        DareFord x = Due.river(text);
        String call = "'" + text + "': cheap(" + i + ", 2)";
        long asked = x.asked();
        Due.due(call, x.cheap(i, 2), want);
        Due.due(call + ": asked()", x.asked(), asked);
        Due.rowIs(x, call, 2, row);
        for (int j = 0; j < row.length; j++) {
            for (int done = 0; done < row[j]; done++) {
                int by = j == i ? x.raise(j, 1) : x.shame(j, 1);
                Due.due(call + ", done as told", by < 0 ? 1 : 0, 0);
            }
        }
        Due.due(call + ", then night()", x.night(), i);
    }

    private static void cheap() {
        cheapIs("f4 p109 d705", 1, 0, 0, 0);
        cheapIs("f4 p109", 0, 0, 0);
        cheapIs("f4 p100", 0, 1, 1);
        cheapIs("f4 p512 e300", 1, 13, 8, 5);
        cheapIs("f4 p512 e400", 1, 12, 7, 5);
        cheapIs("f4 q504 p305", 1, 6, 0, 6);
        cheapIs("f4 q505 p305", 1, 1, 0, 1);
        cheapIs("f4 q305 p107", 0, 2, 0, 2);
        cheapIs("f4 d310 p109", 1, 6, 6, 0);
        cheapIs("f4 p000 t903", 0, 6, 3, 3);
        cheapIs("f4 p314 q405", 1, 9, 9, 0);
        cheapIs("f0 p011 q904 q903 q902 q901 q900", 0, 0, 0, 0, 0, 0, 0, 0);
        cheapIs("f9 e000 q904 q903", 0, 11, 11, 0, 0);
    }

    private static void cheapOfLikeOnes() {
        cheapIs("f4 p112 p309", 1, 3, 3, 0);
        cheapIs("f4 p309 p112", 0, 3, 0, 3);
        cheapIs("f4 p309 p112 p910", 0, 3, 1, 2, 0);
        cheapIs("f4 p912 p912 p309", 2, 3, 0, 0, 3);
        cheapIs("f4 p520 p319", 1, 2, 2, 0);
        cheapIs("f4 p319 p520", 0, 1, 0, 1);
        cheapIs("f4 p318 p120 p020 p920", 0, 2, 2, 0, 0, 0);
    }

    private static void cheapRow() {
        DareFord x = Due.river("f4 p109 p512");
        Due.write(x, 3, 7, 7, 7, 7, 7);
        long digest = x.digest();
        Due.due("cheap(0, 3)", x.cheap(0, 3), 4);
        Due.rowIs(x, "cheap(0, 3), a row anew", 3, 0, 4);
        Due.write(x, 3, 7, 7, 7, 7, 7);
        Due.due("digest() but for the row", x.digest(), digest);
    }

    private static void cheapNone() {
        DareFord x = Due.river("f4 q312 p107");
        Due.write(x, 1, 7, 7);
        long digest = x.digest();
        Due.due("cheap(0, 1) that can't be", x.cheap(0, 1), NONE);
        Due.due("cheap(0, 0) that can't be", x.cheap(0, 0), NONE);
        Due.due("digest(): the row stays", x.digest(), digest);
        DareFord y = Due.river("f4 q305 q403");
        Due.due("cheap(0, 0) against a QUIET one", y.cheap(0, 0), NONE);
        Due.due("count(9)", y.count(9), 0);
        Due.due("finding()", y.finding(), 0);
    }

    private static void cheapRefused() {
        DareFord x = Due.river("f4 p109 b512");
        Due.refused(x, "cheap(2, 0)", BAD, () -> x.cheap(2, 0));
        Due.refused(x, "cheap(-1, 0)", BAD, () -> x.cheap(-1, 0));
        Due.refused(x, "cheap(0, 6)", BAD, () -> x.cheap(0, 6));
        Due.refused(x, "cheap(0, -1)", BAD, () -> x.cheap(0, -1));
        Due.refused(new DareFord(), "cheap(0, 0) without PEOPLE", BAD, () -> new DareFord().cheap(0, 0));
    }
}
