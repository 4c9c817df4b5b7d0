import java.math.BigInteger;
import java.util.Arrays;

/**
 * ROWS of 0 and of 40 ints, TEXTS of 0 and of 60 bytes, missing ones (promises 2 to 9); bytes and ints that
 * wrap around (put, lay, mean, digest).
 */
public final class SizesTest {
    private static final int BEYOND = 2, NOTHING = 1, NOUGHT = 4;
    private static final int MOST = Integer.MAX_VALUE, LEAST = Integer.MIN_VALUE;

    public static void main(String[] args) {
        rowOfNone();
        rowOfForty();
        rowsApart();
        rowMissing();
        rowAnew();
        copyWhole();
        copyOverlapping();
        textOfNone();
        textOfSixty();
        textAnew();
        putWraps();
        layWraps();
        meanDoesNot();
        meanIsCut();
        digestWraps();
        digestOfSizes();
        Due.end();
    }

    // ---- rows

    private static void rowOfNone() {
        DareFord x = new DareFord();
        Due.due("row(3, 0)", x.row(3, 0), 0);
        Due.due("count(9)", x.count(9), 1);
        Due.finds(x, "at(3, 0) of none", BEYOND, () -> x.at(3, 0));
        Due.finds(x, "lay(3, 0, 1) of none", BEYOND, () -> x.lay(3, 0, 1));
        Due.finds(x, "mean(3) of none", NOUGHT, () -> x.mean(3));
        Due.due("copy(3, 0, 3, 0, 0)", x.copy(3, 0, 3, 0, 0), 1);
        Due.finds(x, "copy(3, 0, 3, 0, 1)", BEYOND, () -> x.copy(3, 0, 3, 0, 1));
        Due.finds(x, "copy(3, 1, 3, 0, 0)", BEYOND, () -> x.copy(3, 1, 3, 0, 0));
        Due.finds(x, "copy(3, 0, 3, 1, 0)", BEYOND, () -> x.copy(3, 0, 3, 1, 0));
        Due.due("tear(3)", x.tear(3), 1);
        Due.due("count(9)", x.count(9), 0);
    }

    private static void rowOfForty() {
        for (int r = 0; r < 6; r++) {
            int row = r;
            DareFord x = new DareFord();
            Due.due("row(r, 40)", x.row(r, 40), 40);
            for (int i = 0; i < 40; i++) {
                Due.told(x, "a new row's place " + i, x.at(r, i), 0);
                Due.told(x, "lay", x.lay(r, i, 100 * r + i), 0);
            }
            for (int i = 0; i < 40; i++) {
                Due.told(x, "at(" + r + ", " + i + ")", x.at(r, i), 100 * r + i);
            }
            Due.finds(x, "at(r, 40)", BEYOND, () -> x.at(row, 40));
            Due.finds(x, "lay(r, 40, 7)", BEYOND, () -> x.lay(row, 40, 7));
            Due.told(x, "mean(r)", x.mean(r), 100 * r + 19);
            Due.due("count(9)", x.count(9), 1);
        }
    }

    /** Each ROW is itself: what is laid in one, in all its places, is in no other. */
    private static void rowsApart() {
        DareFord x = new DareFord();
        for (int r = 0; r < 6; r++) {
            x.row(r, 40);
            for (int i = 0; i < 40; i++) {
                x.lay(r, i, 100 * r + i);
            }
        }
        for (int r = 0; r < 6; r++) {
            Due.told(x, "at(" + r + ", 0)", x.at(r, 0), 100 * r);
            Due.told(x, "at(" + r + ", 39)", x.at(r, 39), 100 * r + 39);
            Due.told(x, "mean(" + r + ")", x.mean(r), 100 * r + 19);
        }
        Due.due("count(9)", x.count(9), 6);
    }

    private static void rowMissing() {
        for (int r = 0; r < 6; r++) {
            DareFord x = new DareFord();
            int row = r;
            Due.finds(x, "at(r, 0), missing", NOTHING, () -> x.at(row, 0));
            Due.finds(x, "lay(r, 0, 5), missing", NOTHING, () -> x.lay(row, 0, 5));
            Due.finds(x, "tear(r), missing", NOTHING, () -> x.tear(row));
            Due.finds(x, "mean(r), missing", NOTHING, () -> x.mean(row));
            Due.finds(x, "copy(r, 0, r, 0, 0), missing", NOTHING, () -> x.copy(row, 0, row, 0, 0));
        }
        DareFord x = new DareFord();
        x.row(2, 4);
        x.tear(2);
        Due.finds(x, "at(2, 0), torn", NOTHING, () -> x.at(2, 0));
        Due.finds(x, "copy to one torn", NOTHING, () -> x.copy(2, 0, 2, 0, 0));
    }

    /** A ROW is there with n ints 0, whatever it held, at whichever size. */
    private static void rowAnew() {
        int[][] sizes = {{40, 40}, {40, 0, 40}, {1, 39, 40}, {40, 1, 2, 39}};
        for (int[] one : sizes) {
            DareFord x = new DareFord();
            for (int size : one) {
                Due.due("row(0, " + size + ") anew", x.row(0, size), size);
                for (int i = 0; i < size; i++) {
                    Due.told(x, "anew of " + size + ": at(0, " + i + ")", x.at(0, i), 0);
                    x.lay(0, i, -1 - i);
                }
                Due.finds(x, "anew of " + size + ": its end", BEYOND, () -> x.at(0, size));
                Due.due("count(9)", x.count(9), 1);
            }
        }
        DareFord x = counted(0, 40);
        x.tear(0);
        x.row(0, 40);
        Due.told(x, "torn, then anew: mean(0)", x.mean(0), 0);
    }

    private static DareFord counted(int r, int n) {
        DareFord x = new DareFord();
        x.row(r, n);
        for (int i = 0; i < n; i++) {
            x.lay(r, i, i + 1);
        }
        return x;
    }

    private static void copyWhole() {
        DareFord x = counted(0, 40);
        x.row(5, 40);
        Due.due("copy(0, 0, 5, 0, 40)", x.copy(0, 0, 5, 0, 40), 1);
        for (int i = 0; i < 40; i++) {
            Due.told(x, "at(5, " + i + ")", x.at(5, i), i + 1);
        }
        Due.finds(x, "copy(0, 0, 5, 0, 41)", BEYOND, () -> x.copy(0, 0, 5, 0, 41));
        Due.finds(x, "copy(0, 1, 5, 0, 40)", BEYOND, () -> x.copy(0, 1, 5, 0, 40));
        Due.finds(x, "copy(0, 0, 5, 1, 40)", BEYOND, () -> x.copy(0, 0, 5, 1, 40));
        Due.due("copy(0, 40, 5, 40, 0)", x.copy(0, 40, 5, 40, 0), 1);
        Due.finds(x, "copy(0, 41, 5, 40, 0)", BEYOND, () -> x.copy(0, 41, 5, 40, 0));
        Due.finds(x, "copy(0, 40, 5, 41, 0)", BEYOND, () -> x.copy(0, 40, 5, 41, 0));
        Due.due("copy(0, 39, 5, 0, 1)", x.copy(0, 39, 5, 0, 1), 1);
        Due.told(x, "at(5, 0)", x.at(5, 0), 40);
        Due.told(x, "at(0, 39)", x.at(0, 39), 40);
    }

    /** To itself, as if taken ahead: each way that two parts of 6 places overlap. */
    private static void copyOverlapping() {
        for (int i = 0; i <= 6; i++) {
            for (int j = 0; j <= 6; j++) {
                for (int n = 0; n <= 6 - Math.max(i, j); n++) {
                    DareFord x = counted(4, 6);
                    String call = "copy(4, " + i + ", 4, " + j + ", " + n + ")";
                    Due.due(call, x.copy(4, i, 4, j, n), 1);
                    for (int k = 0; k < 6; k++) {
                        Due.told(x, call + ": at(4, " + k + ")", x.at(4, k), k >= j && k < j + n ? k - j + i + 1 : k + 1);
                    }
                }
            }
        }
    }

    // ---- texts

    private static void textOfNone() {
        DareFord x = new DareFord();
        Due.due("text(3, 0)", x.text(3, 0), 0);
        Due.due("count(10)", x.count(10), 1);
        Due.finds(x, "put(3, 0, 1) of none", BEYOND, () -> x.put(3, 0, 1));
        Due.due("fault(3) of none", x.fault(3), 0);
    }

    private static void textOfSixty() {
        DareFord x = new DareFord();
        for (int t = 0; t < 4; t++) {
            Due.due("text(t, 60)", x.text(t, 60), 60);
            for (int i = 0; i < 60; i++) {
                Due.due("put(t, " + i + ")", x.put(t, i, 30 * t + i - 60), 1032);
            }
        }
        for (int t = 0; t < 4; t++) {
            for (int i = t; i < 60; i += 4) {
                Due.due("put(t, " + i + ") again", x.put(t, i, 32), 1000 + 30 * t + i - 60);
            }
        }
        Due.due("count(10)", x.count(10), 4);
        for (int t = 0; t < 4; t++) {
            int text = t;
            DareFord y = new DareFord();
            y.text(t, 60);
            Due.finds(y, "put(t, 60, 7)", BEYOND, () -> y.put(text, 60, 7));
            Due.due("fault(t) of 60 blanks", y.fault(t), 60);
        }
    }

    /** A TEXT is there with n blanks, whatever it held, at whichever size. */
    private static void textAnew() {
        int[] sizes = {60, 60, 0, 60, 1, 59, 60};
        DareFord x = new DareFord();
        for (int size : sizes) {
            Due.due("text(0, " + size + ") anew", x.text(0, size), size);
            for (int i = 0; i < size; i++) {
                Due.due("anew of " + size + ": put(0, " + i + ")", x.put(0, i, -1 - i), 1032);
            }
            Due.finds(x, "anew of " + size + ": its end", BEYOND, () -> x.put(0, size, 1));
            Due.due("count(10)", x.count(10), 1);
        }
    }

    // ---- wrapping around

    /** Cut to a byte (-128 .. 127): what it was, and 1000 more. */
    private static void putWraps() {
        int[] vs = {0, 1, 126, 127, 128, 129, 254, 255, 256, 257, 383, 384, -1, -127, -128, -129, -255, -256, -257,
            1000, MOST, MOST - 127, MOST - 128, LEAST, LEAST + 127, LEAST + 128, 0x12345680, 0x1234567F};
        int[] bytes = {0, 1, 126, 127, -128, -127, -2, -1, 0, 1, 127, -128, -1, -127, -128, 127, 1, 0, -1,
            -24, -1, -128, 127, 0, 127, -128, -128, 127};
        for (int v = 0; v < vs.length; v++) {
            DareFord x = new DareFord();
            x.text(1, 1);
            Due.due("put(1, 0, " + vs[v] + ")", x.put(1, 0, vs[v]), 1032);
            Due.due("what " + vs[v] + " is, cut to a byte", x.put(1, 0, 32), 1000 + bytes[v]);
        }
        DareFord x = Due.river("f4 p109");
        Due.due("put(0, 0, 'f' + 256)", x.put(0, 0, 'f' + 256), 1000 + 'f');
        Due.due("fault(0), cut to 'f'", x.fault(0), DareFord.NONE);
        Due.due("put(0, 2, 32 - 512)", x.put(0, 2, 32 - 512), 1032);
        Due.due("fault(0), cut to a blank", x.fault(0), DareFord.NONE);
    }

    /** Ints stay whole: no v is cut. */
    private static void layWraps() {
        int[] vs = {MOST, LEAST, -1, 1, MOST - 1, LEAST + 1, 65536, -65537, 0};
        DareFord x = new DareFord();
        x.row(0, 1);
        int was = 0;
        for (int v : vs) {
            Due.told(x, "lay(0, 0, " + v + ")", x.lay(0, 0, v), was);
            Due.told(x, "at(0, 0) of " + v, x.at(0, 0), v);
            was = v;
        }
    }

    private static void meanIs(int want, int... ints) {
        DareFord x = new DareFord();
        Due.write(x, 3, ints);
        Due.told(x, "mean of " + Arrays.toString(ints), x.mean(3), want);
        Due.ratio(x, "mean tells by asked() alone", 0, 1);
    }

    private static void meanDoesNot() {
        meanIs(MOST, MOST);
        meanIs(LEAST, LEAST);
        meanIs(MOST, MOST, MOST);
        meanIs(LEAST, LEAST, LEAST);
        meanIs(MOST - 1, MOST, MOST - 1);
        meanIs(0, MOST, LEAST);
        meanIs(715827882, MOST, MOST, LEAST);
        meanIs(-715827883, LEAST, LEAST, MOST);
        int[] forty = new int[40];
        Arrays.fill(forty, MOST);
        meanIs(MOST, forty);
        Arrays.fill(forty, LEAST);
        meanIs(LEAST, forty);
        forty[39] = LEAST + 39;
        meanIs(LEAST + 1, forty);
        forty[39] = LEAST + 40;
        meanIs(LEAST + 1, forty);
    }

    private static void meanIsCut() {
        meanIs(0, 0);
        meanIs(0, 1, 0);
        meanIs(0, -1, 0);
        meanIs(1, 3, 0);
        meanIs(-1, -3, 0);
        meanIs(2, 2, 3, 3);
        meanIs(-2, -2, -3, -3);
        meanIs(3, 3, 3, 3);
    }

    private static void digestWraps() {
        DareFord x = new DareFord();
        x.row(0, 40);
        x.text(3, 60);
        for (int i = 0; i < 40; i++) {
            x.lay(0, i, i % 2 == 0 ? MOST : LEAST);
        }
        for (int i = 0; i < 60; i++) {
            x.put(3, i, i % 2 == 0 ? 128 : 127);
        }
        BigInteger h = BigInteger.valueOf(17);
        int[] counts = {0, 0, 0, 0, 0, 0, 0, 0, 0, 1, 1, 0, -1, -1, -1, 40};
        for (int count : counts) {
            h = on(h, count);
        }
        for (int i = 0; i < 40; i++) {
            h = on(h, i % 2 == 0 ? MOST : LEAST);
        }
        int[] sizes = {-1, -1, -1, -1, -1, -1, -1, -1, 60};
        for (int size : sizes) {
            h = on(h, size);
        }
        for (int i = 0; i < 60; i++) {
            h = on(h, i % 2 == 0 ? -128 : 127);
        }
        Due.due("digest(), wrapped around", x.digest(), h.longValue());
    }

    private static BigInteger on(BigInteger h, int v) {
        return h.multiply(BigInteger.valueOf(31)).add(BigInteger.valueOf(v));
    }

    /** A missing one, one of 0 and one of one 0 are not the same to digest(). */
    private static void digestOfSizes() {
        DareFord x = new DareFord();
        long missing = x.digest();
        long h = 17;
        int[] numbers = {0, 0, 0, 0, 0, 0, 0, 0, 0, 1, 0, 0, -1, -1, -1, -1, -1, -1, -1, -1, 0, -1, -1, -1, -1};
        for (int number : numbers) {
            h = 31 * h + number;
        }
        x.row(5, 0);
        Due.due("digest() of a row of 0", x.digest(), h);
        x.tear(5);
        Due.due("digest() of one torn", x.digest(), missing);
        x.text(0, 0);
        h = 17;
        int[] others = {0, 0, 0, 0, 0, 0, 0, 0, 0, 0, 1, 0, -1, -1, -1, -1, -1, -1, -1, -1, -1, 0, -1, -1, -1};
        for (int number : others) {
            h = 31 * h + number;
        }
        Due.due("digest() of a text of 0", x.digest(), h);
    }
}
