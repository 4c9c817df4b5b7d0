/** Promises 8 to 11: text, put, fault, river. */
public final class TextsTest {
    private static final int BAD = DareFord.BAD, STATE = DareFord.STATE, NONE = DareFord.NONE;
    private static final int NOTHING = 1, BEYOND = 2, SIZE = 5;

    public static void main(String[] args) {
        text();
        put();
        noFault();
        faults();
        faultRefused();
        river();
        riverAnew();
        riverRefused();
        Due.end();
    }

    private static void text() {
        DareFord x = new DareFord();
        Due.due("text(3, 60)", x.text(3, 60), 60);
        Due.due("text(0, 0)", x.text(0, 0), 0);
        Due.due("count(10)", x.count(10), 2);
        Due.due("put(3, 59, 7)", x.put(3, 59, 7), 1032);
        Due.due("text(3, 60) anew", x.text(3, 60), 60);
        Due.due("put(3, 59, 7) anew", x.put(3, 59, 7), 1032);
        Due.refused(x, "text(-1, 1)", BAD, () -> x.text(-1, 1));
        Due.refused(x, "text(4, -1)", BAD, () -> x.text(4, -1));
        Due.refused(x, "text(0, 61)", BAD, () -> x.text(0, 61));
        Due.finds(x, "text(0, -1)", SIZE, () -> x.text(0, -1));
    }

    private static void put() {
        DareFord x = new DareFord();
        x.text(1, 3);
        Due.due("put(1, 0, 127)", x.put(1, 0, 127), 1032);
        Due.due("put(1, 0, 128)", x.put(1, 0, 128), 1127);
        Due.due("put(1, 0, -1)", x.put(1, 0, -1), 872);
        Due.due("put(1, 0, 256)", x.put(1, 0, 256), 999);
        Due.due("put(1, 0, -129)", x.put(1, 0, -129), 1000);
        Due.due("put(1, 0, 0)", x.put(1, 0, 0), 1127);
        Due.due("put(1, 2, 0)", x.put(1, 2, 0), 1032);
        Due.refused(x, "put(-1, 0, 0)", BAD, () -> x.put(-1, 0, 0));
        Due.refused(x, "put(4, 0, 0)", BAD, () -> x.put(4, 0, 0));
        Due.finds(x, "put(0, 0, 0)", NOTHING, () -> x.put(0, 0, 0));
        Due.finds(x, "put(1, 3, 0)", BEYOND, () -> x.put(1, 3, 0));
        x.text(2, 0);
        Due.finds(x, "put(2, 0, 0)", BEYOND, () -> x.put(2, 0, 0));
        Due.finds(x, "put(1, -1, 0)", BEYOND, () -> x.put(1, -1, 0));
    }

    private static void faultIs(String text, int want) {
        DareFord x = new DareFord();
        Due.write(x, 2, text);
        Due.due("fault of '" + text + "'", x.fault(2), want);
        Due.due("finding() behind it", x.finding(), 0);
        if (want == NONE) {
            return;
        }
        Due.refused(x, "river of '" + text + "'", STATE, () -> x.river(2));
    }

    private static void noFault() {
        faultIs("f0p000", NONE);
        faultIs("f9q920", NONE);
        faultIs("   f4  p109 d705   e312b008t914q602  ", NONE);
        faultIs("f4 p109 p109 p109 p109 p109 p109", NONE);
        faultIs("f4p109d119e120b110t100q119", NONE);
    }

    private static void faults() {
        faultIs("", 0);
        faultIs("   ", 3);
        faultIs("p109", 0);
        faultIs("  F4p109", 2);
        faultIs("f", 1);
        faultIs("f p109", 1);
        faultIs("fp109", 1);
        faultIs("f4", 2);
        faultIs("f4   ", 5);
        faultIs("f44p109", 2);
        faultIs("f4 f4 p109", 3);
        faultIs("f4x109", 2);
        faultIs("f4P109", 2);
        faultIs("f4p", 3);
        faultIs("f4p1", 4);
        faultIs("f4p10", 5);
        faultIs("f4p 109", 3);
        faultIs("f4p1 09", 4);
        faultIs("f4p10 9", 5);
        faultIs("f4p/09", 3);
        faultIs("f4p:09", 3);
        faultIs("f4p1/9", 4);
        faultIs("f4p10:", 5);
        faultIs("f4p121", 4);
        faultIs("f4p120 p299", 9);
        faultIs("f4p130", 4);
        faultIs("f4p1099", 6);
        faultIs("f4p13x", 5);
        faultIs("f4p13", 5);
        faultIs("f4p1099 p109", 6);
        faultIs("f4 p109 p109 p109 p109 p109 p109 p109", 33);
        faultIs("f4 p109 p109 p109 p109 p109 p109 x", 33);
        faultIs("f4" + (char) 230 + "109", 2);
        faultIs("f4p109\t", 6);
        String many = " ".repeat(60);
        faultIs(many, 60);
        faultIs(many.substring(1) + "f", 60);
        faultIs("f4" + many.substring(3) + "p", 60);
        faultIs("f4" + many.substring(4) + "p1", 60);
        faultIs("f4" + many.substring(5) + "p11", 60);
        faultIs("f4" + many.substring(6) + "p119", NONE);
    }

    private static void faultRefused() {
        DareFord x = new DareFord();
        Due.refused(x, "fault(-1)", BAD, () -> x.fault(-1));
        Due.refused(x, "fault(4)", BAD, () -> x.fault(4));
        Due.finds(x, "fault(0)", NOTHING, () -> x.fault(0));
        Due.write(x, 0, "f7 d915");
        x.river(0);
        long digest = x.digest();
        Due.due("fault(0)", x.fault(0), NONE);
        Due.due("digest() behind fault(0)", x.digest(), digest);
    }

    private static void river() {
        DareFord x = new DareFord();
        Due.write(x, 1, " f7 d915p000 ");
        Due.due("river(1)", x.river(1), 2);
        Due.due("count(0)", x.count(0), 2);
        Due.due("count(3)", x.count(3), 7);
        int[] first = {1, 9, 15, 30, 0, 2};
        int[] second = {0, 0, 0, 0, 0, 7};
        for (int what = 0; what < 6; what++) {
            Due.told(x, "one(0, " + what + ")", x.one(0, what), first[what]);
            Due.told(x, "one(1, " + what + ")", x.one(1, what), second[what]);
        }
        Due.write(x, 1, "f1p102d203e304b405t506q607");
        Due.due("river of six", x.river(1), 6);
        for (int i = 0; i < 6; i++) {
            Due.told(x, "one(i, 0)", x.one(i, 0), i);
            Due.told(x, "one(i, 1)", x.one(i, 1), i + 1);
            Due.told(x, "one(i, 2)", x.one(i, 2), i + 2);
        }
    }

    private static void riverAnew() {
        DareFord x = Due.river("f4 p109 d705");
        x.night();
        x.keep(0);
        x.night();
        x.keep(2);
        x.where(7);
        Due.write(x, 3, "f2 b308");
        Due.due("river(3)", x.river(3), 1);
        int[] counts = {1, 0, 0, 2, 1, 8, 0, 0, 1, 0, 2, 0};
        for (int what = 0; what < counts.length; what++) {
            Due.due("river anew: count(" + what + ")", x.count(what), counts[what]);
        }
        Due.told(x, "river anew: one(0, 4)", x.one(0, 4), 0);
        Due.finds(x, "river anew: on(0)", NOTHING, () -> x.on(0));
        Due.finds(x, "river anew: on(2)", NOTHING, () -> x.on(2));
        Due.due("river anew: undo(0)", x.undo(0), 0);
        Due.due("river anew: count(3)", x.count(3), 2);
    }

    private static void riverRefused() {
        DareFord x = Due.river("f4 p109 d705");
        x.night();
        x.keep(1);
        Due.write(x, 1, "f2 b3088");
        Due.refused(x, "river(1) with a fault", STATE, () -> x.river(1));
        Due.refused(x, "river(-1)", BAD, () -> x.river(-1));
        Due.refused(x, "river(4)", BAD, () -> x.river(4));
        Due.finds(x, "river(2)", NOTHING, () -> x.river(2));
        Due.due("on(1) behind refusals", x.on(1), 1);
    }
}
