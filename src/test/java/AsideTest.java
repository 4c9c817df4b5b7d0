/** Promises 21 to 24: dares, where, crosses, first. */
public final class AsideTest {
    private static final int BAD = DareFord.BAD, STATE = DareFord.STATE, NONE = DareFord.NONE;

    public static void main(String[] args) {
        dares();
        daresRefused();
        where();
        whereAsItComes();
        crosses();
        first();
        Due.end();
    }

    private static void dares() {
        for (int daring = 0; daring <= 20; daring++) {
            DareFord x = Due.river("f4 p109 d705 e312 b008 t914 q602");
            int feared = daring < 5 ? 0 : daring;
            for (int far = 0; far <= 9; far++) {
                Due.due("dares(0, " + daring + ")", x.dares(0, daring, far, far), daring);
                Due.due("dares(1, " + daring + ", even)", x.dares(1, daring, 2 * far, far), 2 * daring);
                Due.due("dares(1, " + daring + ", odd)", x.dares(1, daring, 99 - 2 * far, far), daring);
                Due.due("dares(2, " + daring + ")", x.dares(2, daring, far, far), feared);
                Due.due("dares(3, " + daring + ")", x.dares(3, daring, far, far), daring);
                Due.due("dares(4, " + daring + ")", x.dares(4, daring, far, far), daring + (far < 3 ? far : 3));
                Due.due("dares(5, " + daring + ")", x.dares(5, daring, far, far), feared > 10 ? 0 : 10 - feared);
            }
        }
    }

    private static void daresRefused() {
        DareFord x = Due.river("f4 p109");
        Due.due("dares(0, 20, 99, 9)", x.dares(0, 20, 99, 9), 20);
        Due.refused(x, "dares(1, ..)", BAD, () -> x.dares(1, 0, 0, 0));
        Due.refused(x, "dares(-1, ..)", BAD, () -> x.dares(-1, 0, 0, 0));
        Due.refused(x, "dares(0, 21, ..)", BAD, () -> x.dares(0, 21, 0, 0));
        Due.refused(x, "dares(0, -1, ..)", BAD, () -> x.dares(0, -1, 0, 0));
        DareFord drunk = Due.river("f4 d109");
        Due.refused(drunk, "dares(0, -1, ..) of a DRUNK", BAD, () -> drunk.dares(0, -1, 0, 0));
        Due.refused(x, "dares(0, 0, 100, 0)", BAD, () -> x.dares(0, 0, 100, 0));
        Due.refused(x, "dares(0, 0, -1, 0)", BAD, () -> x.dares(0, 0, -1, 0));
        Due.refused(x, "dares(0, 0, 0, 10)", BAD, () -> x.dares(0, 0, 0, 10));
        Due.refused(x, "dares(0, 0, 0, -1)", BAD, () -> x.dares(0, 0, 0, -1));
    }

    private static void where() {
        DareFord x = Due.river("f4 p109 d705");
        Due.due("where(0)", x.where(0), 4);
        Due.due("where(0) by asked()", x.asked(), NONE);
        Due.due("where(1)", x.where(1), 7);
        Due.due("where(1) by asked()", x.asked(), 1);
        Due.due("where(2)", x.where(2), 1);
        Due.due("where(2) by asked()", x.asked(), 0);
        Due.due("where(40)", x.where(40), 1);
        Due.due("where(40) by asked()", x.asked(), NONE);
        Due.refused(x, "where(41)", BAD, () -> x.where(41));
        Due.refused(x, "where(-1)", BAD, () -> x.where(-1));
        DareFord y = new DareFord();
        Due.refused(y, "where(0) without PEOPLE", STATE, () -> y.where(0));
        Due.refused(y, "where(41) without PEOPLE", BAD, () -> y.where(41));
    }

    private static void whereAsItComes() {
        String text = "f4 p109 d705 e312 b008 t914 q602";
        DareFord ahead = Due.river(text);
        DareFord truly = Due.river(text);
        int[] crossed = new int[6];
        long digest = ahead.digest();
        for (int n = 1; n <= 40; n++) {
            int who = truly.night();
            Due.due("where(" + n + ")", ahead.where(n), truly.count(3));
            Due.due("where(" + n + ") by asked()", ahead.asked(), who);
            for (int i = 0; i < 6; i++) {
                if (i == who && crossed[i]++ == 0) {
                    Due.due("first(" + i + ")", ahead.first(i), n);
                }
                Due.due("crosses(" + i + ", " + n + ")", ahead.crosses(i, n), crossed[i]);
            }
            if (n % 8 == 0) {
                Due.due("aside: digest()", ahead.digest(), digest);
                digest = (ahead = Due.river(text)).digest();
            }
        }
    }

    private static void crosses() {
        DareFord x = Due.river("f4 b106 p204");
        Due.due("crosses(0, 0)", x.crosses(0, 0), 0);
        Due.due("crosses(0, 1)", x.crosses(0, 1), 1);
        Due.due("crosses(0, 40)", x.crosses(0, 40), 3);
        Due.due("crosses(1, 40)", x.crosses(1, 40), 1);
        x.night();
        x.night();
        Due.due("crosses(0, 40), of these on", x.crosses(0, 40), 1);
        Due.refused(x, "crosses(0, 41)", BAD, () -> x.crosses(0, 41));
        Due.refused(x, "crosses(0, -1)", BAD, () -> x.crosses(0, -1));
        Due.refused(x, "crosses(2, 1)", BAD, () -> x.crosses(2, 1));
        Due.refused(x, "crosses(-1, 1)", BAD, () -> x.crosses(-1, 1));
    }

    private static void first() {
        DareFord x = Due.river("f4 b106 p205 e309");
        Due.due("first(2)", x.first(2), 1);
        Due.due("first(0)", x.first(0), 3);
        Due.due("first(1)", x.first(1), NONE);
        x.night();
        Due.due("first(0), a NIGHT on", x.first(0), 2);
        DareFord late = Due.river("f0 b020 b020 b020 b020 b001");
        Due.due("first(4), 40 NIGHTS off", late.first(4), NONE);
        late.night();
        late.night();
        Due.due("first(4), 40 NIGHTS at most", late.first(4), 39);
        late.undo(1);
        Due.due("first(4), in 40 NIGHTS", late.first(4), 40);
        Due.refused(x, "first(3)", BAD, () -> x.first(3));
        Due.refused(x, "first(-1)", BAD, () -> x.first(-1));
    }
}
