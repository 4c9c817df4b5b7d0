/** Promises 1 to 7: a new object, row, lay, at, tear, copy, mean. */
public final class RowsTest {
    private static final int BAD = DareFord.BAD;
    private static final int NOTHING = 1, BEYOND = 2, NOUGHT = 4, SIZE = 5;

    public static void main(String[] args) {
        newObject();
        row();
        lay();
        at();
        tear();
        copy();
        copyRefused();
        mean();
        Due.end();
    }

    private static void newObject() {
        DareFord x = new DareFord();
        for (int what = 0; what < 12; what++) {
            Due.due("new: count(" + what + ")", x.count(what), 0);
        }
        for (int r = 0; r < 6; r++) {
            int row = r;
            Due.finds(x, "new: at", NOTHING, () -> x.at(row, 0));
        }
        for (int t = 0; t < 4; t++) {
            int text = t;
            Due.finds(x, "new: fault", NOTHING, () -> x.fault(text));
        }
        DareFord y = new DareFord();
        Due.due("new: asked()", y.asked(), 0);
        Due.ratio(y, "new", 0, 1);
        Due.due("new: finding()", y.finding(), 0);
        Due.refused(y, "new: one", BAD, () -> y.one(0, 0));
        Due.refused(y, "new: night", DareFord.STATE, y::night);
    }

    private static void row() {
        DareFord x = new DareFord();
        Due.due("row(0, 40)", x.row(0, 40), 40);
        Due.due("row(5, 0)", x.row(5, 0), 0);
        Due.due("count(9)", x.count(9), 2);
        Due.told(x, "at(0, 39)", x.at(0, 39), 0);
        x.lay(0, 1, 7);
        Due.due("row(0, 2) anew", x.row(0, 2), 2);
        Due.rowIs(x, "row(0, 2) anew", 0, 0, 0);
        x.lay(0, 1, 7);
        x.row(0, 1);
        x.row(0, 3);
        Due.rowIs(x, "row(0, 3) anew", 0, 0, 0, 0);
        Due.refused(x, "row(-1, 1)", BAD, () -> x.row(-1, 1));
        Due.refused(x, "row(6, 1)", BAD, () -> x.row(6, 1));
        Due.refused(x, "row(0, 41)", BAD, () -> x.row(0, 41));
        Due.refused(x, "row(6, -1)", BAD, () -> x.row(6, -1));
        Due.finds(x, "row(0, -1)", SIZE, () -> x.row(0, -1));
        Due.finds(x, "row(0, least)", SIZE, () -> x.row(0, Integer.MIN_VALUE));
    }

    private static void lay() {
        DareFord x = new DareFord();
        x.row(2, 2);
        Due.told(x, "lay(2, 1, 5)", x.lay(2, 1, 5), 0);
        Due.told(x, "lay(2, 1, least)", x.lay(2, 1, Integer.MIN_VALUE), 5);
        Due.told(x, "lay(2, 1, 3)", x.lay(2, 1, 3), Integer.MIN_VALUE);
        Due.rowIs(x, "lay", 2, 0, 3);
        Due.refused(x, "lay(-1, 0, 1)", BAD, () -> x.lay(-1, 0, 1));
        Due.refused(x, "lay(6, 9, 1)", BAD, () -> x.lay(6, 9, 1));
        Due.finds(x, "lay(1, 0, 1)", NOTHING, () -> x.lay(1, 0, 1));
        Due.finds(x, "lay(1, -1, 1)", NOTHING, () -> x.lay(1, -1, 1));
        Due.finds(x, "lay(2, 2, 1)", BEYOND, () -> x.lay(2, 2, 1));
        Due.finds(x, "lay(2, -1, 1)", BEYOND, () -> x.lay(2, -1, 1));
    }

    private static void at() {
        DareFord x = new DareFord();
        Due.write(x, 4, 11, -12);
        Due.told(x, "at(4, 0)", x.at(4, 0), 11);
        Due.told(x, "at(4, 1)", x.at(4, 1), -12);
        Due.refused(x, "at(-1, 0)", BAD, () -> x.at(-1, 0));
        Due.refused(x, "at(6, 0)", BAD, () -> x.at(6, 0));
        Due.finds(x, "at(3, 0)", NOTHING, () -> x.at(3, 0));
        Due.finds(x, "at(4, 2)", BEYOND, () -> x.at(4, 2));
        Due.finds(x, "at(4, most)", BEYOND, () -> x.at(4, Integer.MAX_VALUE));
        Due.finds(x, "at(4, -1)", BEYOND, () -> x.at(4, -1));
    }

    private static void tear() {
        DareFord x = new DareFord();
        x.row(3, 0);
        Due.due("tear(3)", x.tear(3), 1);
        Due.due("count(9)", x.count(9), 0);
        Due.finds(x, "tear(3) again", NOTHING, () -> x.tear(3));
        Due.refused(x, "tear(-1)", BAD, () -> x.tear(-1));
        Due.refused(x, "tear(6)", BAD, () -> x.tear(6));
        x.row(3, 2);
        Due.rowIs(x, "row behind tear", 3, 0, 0);
    }

    private static void copy() {
        DareFord x = new DareFord();
        Due.write(x, 0, 1, 2, 3, 4, 5);
        Due.write(x, 1, 9, 9, 9);
        Due.due("copy(0, 3, 1, 1, 2)", x.copy(0, 3, 1, 1, 2), 1);
        Due.rowIs(x, "copy", 1, 9, 4, 5);
        Due.rowIs(x, "copy", 0, 1, 2, 3, 4, 5);
        Due.due("copy(0, 0, 0, 1, 4)", x.copy(0, 0, 0, 1, 4), 1);
        Due.rowIs(x, "copy to itself, on", 0, 1, 1, 2, 3, 4);
        Due.due("copy(0, 2, 0, 0, 3)", x.copy(0, 2, 0, 0, 3), 1);
        Due.rowIs(x, "copy to itself, back", 0, 2, 3, 4, 3, 4);
        Due.due("copy(0, 5, 1, 3, 0)", x.copy(0, 5, 1, 3, 0), 1);
        Due.rowIs(x, "copy of none", 1, 9, 4, 5);
        x.row(2, 0);
        Due.due("copy(2, 0, 2, 0, 0)", x.copy(2, 0, 2, 0, 0), 1);
        Due.due("copy(0, 0, 2, 0, 0)", x.copy(0, 0, 2, 0, 0), 1);
        Due.due("copy(2, 0, 1, 0, 0)", x.copy(2, 0, 1, 0, 0), 1);
    }

    private static void copyRefused() {
        DareFord x = new DareFord();
        Due.write(x, 0, 1, 2, 3);
        Due.write(x, 1, 4, 5);
        Due.refused(x, "copy(6, ..)", BAD, () -> x.copy(6, 0, 0, 0, -1));
        Due.refused(x, "copy(-1, ..)", BAD, () -> x.copy(-1, 0, 0, 0, 1));
        Due.refused(x, "copy(.., 6, ..)", BAD, () -> x.copy(0, 0, 6, 0, 1));
        Due.refused(x, "copy(.., -1, ..)", BAD, () -> x.copy(0, 0, -1, 0, 1));
        Due.finds(x, "copy(2, 0, 0, 0, -1)", SIZE, () -> x.copy(2, 0, 0, 0, -1));
        Due.finds(x, "copy(2, -1, 0, 0, 1)", NOTHING, () -> x.copy(2, -1, 0, 0, 1));
        Due.finds(x, "copy(0, 9, 2, 0, 1)", NOTHING, () -> x.copy(0, 9, 2, 0, 1));
        Due.finds(x, "copy(0, 2, 1, 0, 2)", BEYOND, () -> x.copy(0, 2, 1, 0, 2));
        Due.finds(x, "copy(0, 0, 1, 1, 2)", BEYOND, () -> x.copy(0, 0, 1, 1, 2));
        Due.finds(x, "copy(0, 4, 1, 0, 0)", BEYOND, () -> x.copy(0, 4, 1, 0, 0));
        Due.finds(x, "copy(0, 0, 1, 3, 0)", BEYOND, () -> x.copy(0, 0, 1, 3, 0));
        Due.finds(x, "copy(0, -1, 1, 0, 0)", BEYOND, () -> x.copy(0, -1, 1, 0, 0));
        Due.finds(x, "copy(0, 0, 1, -1, 0)", BEYOND, () -> x.copy(0, 0, 1, -1, 0));
        int most = Integer.MAX_VALUE;
        Due.finds(x, "copy(0, most, 1, most, most)", BEYOND, () -> x.copy(0, most, 1, most, most));
        Due.finds(x, "copy(0, 1, 1, 1, most)", BEYOND, () -> x.copy(0, 1, 1, 1, most));
    }

    private static void mean() {
        DareFord x = new DareFord();
        Due.write(x, 0, 1, 2, 5);
        Due.told(x, "mean(1, 2, 5)", x.mean(0), 2);
        Due.write(x, 0, -1, -2, -5);
        Due.told(x, "mean(-1, -2, -5)", x.mean(0), -2);
        Due.write(x, 0, Integer.MAX_VALUE, Integer.MAX_VALUE, Integer.MAX_VALUE);
        Due.told(x, "mean of the most", x.mean(0), Integer.MAX_VALUE);
        Due.write(x, 0, Integer.MIN_VALUE, Integer.MIN_VALUE);
        Due.told(x, "mean of the least", x.mean(0), Integer.MIN_VALUE);
        x.row(0, 40);
        x.lay(0, 39, 83);
        Due.told(x, "mean of forty", x.mean(0), 2);
        x.row(1, 0);
        Due.finds(x, "mean(1)", NOUGHT, () -> x.mean(1));
        Due.finds(x, "mean(2)", NOTHING, () -> x.mean(2));
        Due.refused(x, "mean(-1)", BAD, () -> x.mean(-1));
        Due.refused(x, "mean(6)", BAD, () -> x.mean(6));
    }
}
