/** Promises 27 to 29: darings, kinds, look. */
public final class HoldersTest {
    private static final int BAD = DareFord.BAD, NONE = DareFord.NONE;
    private static final int NOTHING = 1, UNLIKE = 3, SIZE = 5;

    public static void main(String[] args) {
        darings();
        kinds();
        look();
        lookBehindDeeds();
        lookOfNone();
        lookIsFirst();
        lookEarlyAndLate();
        lookAgain();
        changesNothing();
        refusals();
        Due.end();
    }

    private static int bits(int from, int to) {
        int bits = 0;
        for (int d = from; d <= to; d++) {
            bits |= 1 << d;
        }
        return bits;
    }

    private static void darings() {
        DareFord x = Due.river("f4 p109 b512");
        Due.write(x, 0, 0);
        Due.due("darings(0, {0})", x.darings(0, 0), bits(13, 20));
        Due.write(x, 0, 1);
        Due.due("darings(0, {1})", x.darings(0, 0), bits(0, 12));
        Due.write(x, 0, 1, 0);
        Due.due("darings(0, {1, 0})", x.darings(0, 0), bits(12, 12));
        Due.due("darings(1, {1, 0})", x.darings(1, 0), bits(9, 9));
        Due.write(x, 0, 0, 1, 1, 0);
        Due.due("darings(0, {0, 1, 1, 0})", x.darings(0, 0), bits(13, 13));
        Due.write(x, 0, 1, 1, 1, 1, 1, 1, 0);
        Due.due("darings(0, {1 six times, 0})", x.darings(0, 0), bits(7, 7));
        Due.write(x, 0, 0, 0, 1, 1, 1, 1, 1, 1, 1, 1);
        Due.due("darings(0) of ten", x.darings(0, 0), 0);
    }

    private static void kinds() {
        DareFord x = Due.river("f4 p109 b512");
        Due.write(x, 5, 1);
        Due.due("kinds(0, {1})", x.kinds(0, 5), 1 | 4 | 8 | 16 | 32);
        Due.write(x, 5, 0);
        Due.due("kinds(0, {0})", x.kinds(0, 5), 2);
        Due.write(x, 5, 1, 1);
        Due.due("kinds(0, {1, 1})", x.kinds(0, 5), 1 | 4 | 8 | 32);
        Due.write(x, 5, 1, 0);
        Due.due("kinds(0, {1, 0})", x.kinds(0, 5), 16);
        DareFord y = Due.river("f4 p103 b402");
        Due.write(y, 0, 0);
        Due.due("kinds(0, {0}) of 3", y.kinds(0, 0), 1 | 2 | 8 | 16 | 32);
        Due.due("kinds(1, {0})", y.kinds(1, 0), 1 | 4 | 8 | 16);
    }

    private static void look() {
        DareFord x = Due.river("f4 b109");
        Due.write(x, 0, 0);
        Due.due("look(0, {0})", x.look(0, 0), 6);
        Due.due("look(0, {0}) by asked()", x.asked(), 10);
        Due.write(x, 0, 0, 0, 0, 0, 0, 0, 0, 0);
        Due.due("look(0) of eight", x.look(0, 0), 9);
        Due.due("look(0) of eight by asked()", x.asked(), 4);
        Due.write(x, 0, 0, 0, 0, 0, 0, 0, 0, 0, 0, 0);
        Due.due("look(0) of ten", x.look(0, 0), 1);
        Due.due("look(0) of ten by asked()", x.asked(), 2);
    }

    /** DARINGS 0, 1 and 2 alone are left by the ROW: who is daring soon has it. */
    private static void lookBehindDeeds() {
        DareFord x = Due.river("f4 p109 b503");
        x.shame(0, 7);
        Due.write(x, 0, 1, 1);
        Due.due("darings(0, {1, 1}) of 3 and 1", x.darings(0, 0), bits(0, 2));
        Due.due("look(0, {1, 1})", x.look(0, 0), 1);
        Due.due("look(0, {1, 1}) by asked()", x.asked(), 3);
        x.raise(1, 8);
        Due.write(x, 0, 1);
        Due.due("darings(0, {1}) of 11", x.darings(0, 0), bits(0, 11));
        Due.due("look(0, {1}) of 11", x.look(0, 0), 7);
        Due.due("look(0, {1}) of 11 by asked()", x.asked(), 7);
    }

    private static void lookOfNone() {
        DareFord x = Due.river("f4 p109 b512");
        Due.write(x, 0, 0, 0, 1, 1, 1, 1, 1, 1, 1, 1);
        Due.told(x, "at(0, 2)", x.at(0, 2), 1);
        Due.due("look(0, 0) without DARINGS", x.look(0, 0), NONE);
        Due.due("look(0, 0) without DARINGS: asked()", x.asked(), 1);
        Due.due("look(0, 0) without DARINGS: finding()", x.finding(), 0);
    }

    private static void lookIsFirst() {
        DareFord x = Due.river("f4 p109 p109");
        Due.write(x, 0, 1, 0);
        Due.due("darings(0, {1, 0}) of one number", x.darings(0, 0), bits(8, 8));
        Due.due("look(0, 0) of one DARING", x.look(0, 0), 1);
        Due.due("look(0, 0) of one DARING by asked()", x.asked(), 1);
    }

    private static void lookIs(String text, int i, int who, int night, int part) {
        DareFord x = Due.river(text);
        Due.write(x, 0, who);
        String call = "'" + text + "': look(" + i + ", {" + who + "})";
        Due.due(call, x.look(i, 0), night);
        Due.due(call + " by asked()", x.asked(), part);
    }

    /** In the second of these a 21st NIGHT would tell more (6), which is not looked at. */
    private static void lookEarlyAndLate() {
        lookIs("f6 p910 d605", 0, 1, 2, 6);
        lookIs("f1 b709 b620 b517", 0, 1, 19, 8);
        lookIs("f9 t300 b219", 0, 0, 20, 2);
    }

    /** What was counted by one look() is nothing to the next. */
    private static void lookAgain() {
        DareFord x = Due.river("f9 t300 b219");
        Due.write(x, 0, 0);
        Due.write(x, 1, 1);
        for (int time = 0; time < 4; time++) {
            Due.due("look(0, {0}) again", x.look(0, 0), 20);
            Due.due("look(0, {0}) again by asked()", x.asked(), 2);
            Due.due("look(1, {1}) between, refused", x.look(1, 1) < 0 ? 1 : 0, 0);
        }
        DareFord y = Due.river("f1 b709 b620 b517");
        Due.write(y, 0, 1);
        for (int time = 0; time < 4; time++) {
            Due.due("look(0, {1}) again", y.look(0, 0), 19);
            Due.due("look(0, {1}) again by asked()", y.asked(), 8);
        }
    }

    private static void changesNothing() {
        DareFord x = Due.river("f4 p109 d705 e312 b008 t914 q602");
        Due.write(x, 0, 4);
        long digest = x.digest();
        for (int i = 0; i < 6; i++) {
            x.darings(i, 0);
            x.kinds(i, 0);
            x.look(i, 0);
        }
        Due.due("digest() behind darings, kinds, look", x.digest(), digest);
    }

    private interface Asking {
        int ask(DareFord x, int i, int r);
    }

    private static void refusals() {
        refusalsOf("darings", (x, i, r) -> x.darings(i, r));
        refusalsOf("kinds", (x, i, r) -> x.kinds(i, r));
        refusalsOf("look", (x, i, r) -> x.look(i, r));
    }

    private static void refusalsOf(String name, Asking asking) {
        DareFord x = Due.river("f4 p109 b512");
        x.row(1, 0);
        x.row(2, 11);
        x.row(3, 10);
        Due.write(x, 4, 0, 2);
        Due.write(x, 5, NONE);
        Due.refused(x, name + "(2, 0)", BAD, () -> asking.ask(x, 2, 0));
        Due.refused(x, name + "(-1, 1)", BAD, () -> asking.ask(x, -1, 1));
        Due.refused(x, name + "(0, 6)", BAD, () -> asking.ask(x, 0, 6));
        Due.refused(x, name + "(0, -1)", BAD, () -> asking.ask(x, 0, -1));
        Due.finds(x, name + "(0, 0)", NOTHING, () -> asking.ask(x, 0, 0));
        Due.finds(x, name + "(0, 1)", SIZE, () -> asking.ask(x, 0, 1));
        Due.finds(x, name + "(0, 2)", SIZE, () -> asking.ask(x, 0, 2));
        x.lay(2, 0, 9);
        Due.finds(x, name + "(0, 2), UNLIKE too", SIZE, () -> asking.ask(x, 0, 2));
        Due.finds(x, name + "(0, 4)", UNLIKE, () -> asking.ask(x, 0, 4));
        Due.finds(x, name + "(0, 5) by nobody", UNLIKE, () -> asking.ask(x, 0, 5));
        x.lay(4, 1, -1);
        Due.finds(x, name + "(0, 4) by -1", UNLIKE, () -> asking.ask(x, 0, 4));
        x.finding();
        Due.due(name + "(0, 3) of ten is not refused", asking.ask(x, 0, 3) == DareFord.FINDING ? 1 : 0, 0);
    }
}
