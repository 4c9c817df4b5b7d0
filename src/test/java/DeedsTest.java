/** Promises 14 to 20: night, raise, shame, door, undo, keep, on. */
public final class DeedsTest {
    private static final int BAD = DareFord.BAD, FULL = DareFord.FULL, STATE = DareFord.STATE, NONE = DareFord.NONE;
    private static final int NOTHING = 1;

    public static void main(String[] args) {
        night();
        nightOfLikeOnes();
        nightOfNobody();
        fading();
        raise();
        shame();
        door();
        full();
        undo();
        keepAndOn();
        onBehindOtherDeeds();
        noPeople();
        Due.end();
    }

    private static void darings(DareFord x, String when, int... wants) {
        for (int i = 0; i < wants.length; i++) {
            Due.told(x, when + ": DARING of " + i, x.one(i, 2), wants[i]);
        }
    }

    private static void night() {
        DareFord x = Due.river("f4 p109 d705");
        Due.due("night()", x.night(), 1);
        Due.due("count(1)", x.count(1), 1);
        Due.due("count(2)", x.count(2), 1);
        Due.due("count(3)", x.count(3), 7);
        Due.due("count(6)", x.count(6), 1);
        darings(x, "night 0", 8, 3);
        Due.due("night()", x.night(), 0);
        Due.due("count(3)", x.count(3), 1);
        darings(x, "night 1", 6, 2);
        Due.due("night()", x.night(), 0);
        darings(x, "night 2", 4, 1);
        Due.told(x, "one(0, 4)", x.one(0, 4), 2);
        Due.told(x, "one(1, 4)", x.one(1, 4), 1);
    }

    private static void nightOfLikeOnes() {
        Due.due("the nearest of like ones", Due.river("f4 p109 p609 p709").night(), 1);
        Due.due("the first of like ones as near", Due.river("f4 p109 p609 p209 p609").night(), 1);
        Due.due("the first at one door", Due.river("f4 p108 p509 p509").night(), 1);
        Due.due("the nearest, behind", Due.river("f9 p009 p109 p209 p309 p409 p509").night(), 5);
        Due.due("the most, far off", Due.river("f9 p010 p909").night(), 0);
        Due.due("a drunk who is even", Due.river("f5 d005 p910").night(), 1);
    }

    private static void nightOfNobody() {
        DareFord x = Due.river("f4 e104 p500 q620");
        Due.due("night() of nobody", x.night(), NONE);
        Due.due("count(3)", x.count(3), 4);
        Due.due("count(1)", x.count(1), 1);
        Due.due("count(2)", x.count(2), 1);
        Due.due("count(6)", x.count(6), 0);
        darings(x, "night of nobody", 2, 0, 18);
    }

    private static void fading() {
        DareFord x = Due.river("f4 p109 d101 e101 b103 t904 q602");
        Due.due("night()", x.night(), 5);
        darings(x, "night 0", 8, 0, 0, 3, 4, 0);
        Due.due("night()", x.night(), 5);
        darings(x, "night 1", 7, 0, 0, 3, 4, 0);
        DareFord y = Due.river("f4 b101 e207");
        Due.due("night() of a FEARFUL one", y.night(), 1);
        darings(y, "night 0", 1, 5);
        Due.due("night()", y.night(), 1);
        Due.due("night() of a BRED one", y.night(), 0);
        darings(y, "night 2", 0, 1);
        DareFord z = Due.river("f9 t001 q315");
        Due.due("night() of one who BETS", z.night(), 0);
        darings(z, "one who BETS has it", 0, 13);
    }

    private static void raise() {
        DareFord x = Due.river("f4 p109 d705");
        Due.due("raise(0, 9)", x.raise(0, 9), 18);
        Due.due("raise(0, 2)", x.raise(0, 2), 20);
        Due.due("count(2)", x.count(2), 2);
        darings(x, "raised", 20, 5);
        Due.due("count(1)", x.count(1), 0);
        Due.refused(x, "raise(0, 1) above 20", STATE, () -> x.raise(0, 1));
        Due.refused(x, "raise(1, 0)", BAD, () -> x.raise(1, 0));
        Due.refused(x, "raise(1, 10)", BAD, () -> x.raise(1, 10));
        Due.refused(x, "raise(0, 10)", BAD, () -> x.raise(0, 10));
        Due.refused(x, "raise(2, 1)", BAD, () -> x.raise(2, 1));
        Due.refused(x, "raise(-1, 1)", BAD, () -> x.raise(-1, 1));
        Due.refused(x, "raise(1, most)", BAD, () -> x.raise(1, Integer.MAX_VALUE));
    }

    private static void shame() {
        DareFord x = Due.river("f4 p109 d705");
        Due.due("shame(0, 8)", x.shame(0, 8), 1);
        Due.due("shame(0, 1)", x.shame(0, 1), 0);
        Due.due("count(2)", x.count(2), 2);
        darings(x, "shamed", 0, 5);
        Due.refused(x, "shame(0, 1) below 0", STATE, () -> x.shame(0, 1));
        Due.refused(x, "shame(1, 6) below 0", STATE, () -> x.shame(1, 6));
        Due.refused(x, "shame(1, 0)", BAD, () -> x.shame(1, 0));
        Due.refused(x, "shame(1, -1)", BAD, () -> x.shame(1, -1));
        Due.refused(x, "shame(1, 10)", BAD, () -> x.shame(1, 10));
        Due.refused(x, "shame(2, 1)", BAD, () -> x.shame(2, 1));
        Due.refused(x, "shame(-1, 1)", BAD, () -> x.shame(-1, 1));
    }

    private static void door() {
        DareFord x = Due.river("f4 p109 d705");
        Due.due("door(0, 7)", x.door(0, 7), 1);
        Due.due("door(0, 0)", x.door(0, 0), 7);
        Due.due("door(1, 9)", x.door(1, 9), 7);
        Due.due("count(2)", x.count(2), 3);
        Due.due("count(3)", x.count(3), 4);
        Due.told(x, "one(0, 1)", x.one(0, 1), 0);
        Due.told(x, "one(1, 1)", x.one(1, 1), 9);
        Due.refused(x, "door(1, 9) again", STATE, () -> x.door(1, 9));
        Due.refused(x, "door(1, 10)", BAD, () -> x.door(1, 10));
        Due.refused(x, "door(1, -1)", BAD, () -> x.door(1, -1));
        Due.refused(x, "door(2, 1)", BAD, () -> x.door(2, 1));
        Due.refused(x, "door(-1, 1)", BAD, () -> x.door(-1, 1));
    }

    private static void full() {
        DareFord x = Due.river("f4 p120 d700 e000");
        for (int d = 0; d < 40; d++) {
            Due.due("deed " + d, x.door(1, d % 2 == 0 ? 8 : 7), d % 2 == 0 ? 7 : 8);
        }
        Due.due("count(2)", x.count(2), 40);
        Due.refused(x, "night(), full", FULL, x::night);
        Due.refused(x, "raise(1, 1), full", FULL, () -> x.raise(1, 1));
        Due.refused(x, "raise(0, 1), full and above 20", STATE, () -> x.raise(0, 1));
        Due.refused(x, "raise(0, 10), full", BAD, () -> x.raise(0, 10));
        Due.refused(x, "shame(0, 1), full", FULL, () -> x.shame(0, 1));
        Due.refused(x, "shame(1, 1), full and below 0", STATE, () -> x.shame(1, 1));
        Due.refused(x, "door(0, 2), full", FULL, () -> x.door(0, 2));
        Due.refused(x, "door(0, 1), full and there", STATE, () -> x.door(0, 1));
        Due.refused(x, "undo(41)", BAD, () -> x.undo(41));
        Due.due("undo(40)", x.undo(40), 0);
        Due.refused(x, "night(), still full", FULL, x::night);
        Due.due("undo(39)", x.undo(39), 1);
        Due.due("night(), room for one", x.night(), 0);
        Due.refused(x, "night(), full again", FULL, x::night);
    }

    private static void undo() {
        DareFord x = Due.river("f4 p109 d705 e312 b008 t914 q602");
        long[] digests = new long[6];
        digests[0] = x.digest();
        x.night();
        digests[1] = x.digest();
        x.raise(5, 9);
        digests[2] = x.digest();
        x.door(2, 8);
        digests[3] = x.digest();
        x.shame(4, 7);
        digests[4] = x.digest();
        x.night();
        digests[5] = x.digest();
        Due.refused(x, "undo(-1)", BAD, () -> x.undo(-1));
        Due.refused(x, "undo(6)", BAD, () -> x.undo(6));
        Due.due("undo(5)", x.undo(5), 0);
        Due.due("digest() behind undo(5)", x.digest(), digests[5]);
        Due.due("undo(4)", x.undo(4), 1);
        Due.due("digest() behind undo(4)", x.digest(), digests[4]);
        Due.due("undo(1)", x.undo(1), 3);
        Due.due("digest() behind undo(1)", x.digest(), digests[1]);
        Due.due("raise(5, 9) again", x.raise(5, 9), 9);
        Due.due("digest() as it was", x.digest(), digests[2]);
        Due.due("undo(0)", x.undo(0), 2);
        Due.due("digest() behind undo(0)", x.digest(), digests[0]);
        Due.due("undo(0) of none", x.undo(0), 0);
    }

    private static void keepAndOn() {
        DareFord x = Due.river("f4 p109 d705");
        Due.due("keep(0)", x.keep(0), 0);
        x.night();
        x.door(0, 3);
        Due.due("keep(2)", x.keep(2), 2);
        Due.due("count(11)", x.count(11), 2);
        long two = x.digest();
        x.night();
        x.raise(0, 1);
        x.shame(1, 1);
        Due.due("keep(1)", x.keep(1), 5);
        Due.due("on(2)", x.on(2), 2);
        Due.due("count(2)", x.count(2), 2);
        Due.due("keep(1) anew", x.keep(1), 2);
        Due.due("undo(1) of one gone on from", x.undo(1), 1);
        Due.told(x, "one(0, 1)", x.one(0, 1), 1);
        Due.due("on(2) again", x.on(2), 2);
        Due.told(x, "one(0, 1) again", x.one(0, 1), 3);
        x.night();
        Due.due("on(0)", x.on(0), 0);
        Due.due("count(3)", x.count(3), 4);
        Due.due("on(1)", x.on(1), 2);
        DareFord y = Due.river("f4 p109 d705");
        y.keep(0);
        y.night();
        y.door(0, 3);
        y.keep(2);
        Due.due("digest() of one that did likewise", y.digest(), two);
        Due.refused(x, "keep(-1)", BAD, () -> x.keep(-1));
        Due.refused(x, "keep(3)", BAD, () -> x.keep(3));
        Due.refused(x, "on(-1)", BAD, () -> x.on(-1));
        Due.refused(x, "on(3)", BAD, () -> x.on(3));
        Due.finds(y, "on(1)", NOTHING, () -> y.on(1));
    }

    private static void onBehindOtherDeeds() {
        DareFord x = Due.river("f4 p109 d705");
        x.night();
        x.door(0, 3);
        x.raise(1, 4);
        x.keep(2);
        long kept = x.digest();
        x.undo(0);
        x.shame(0, 2);
        x.door(1, 0);
        Due.due("on(2) behind other DEEDS", x.on(2), 3);
        Due.due("digest() of the one kept", x.digest(), kept);
        Due.due("undo(2) of one gone on from", x.undo(2), 1);
        darings(x, "without the raising", 8, 3);
    }

    private static void noPeople() {
        DareFord x = new DareFord();
        Due.refused(x, "night()", STATE, x::night);
        Due.refused(x, "raise(0, 1)", BAD, () -> x.raise(0, 1));
        Due.refused(x, "shame(0, 1)", BAD, () -> x.shame(0, 1));
        Due.refused(x, "door(0, 1)", BAD, () -> x.door(0, 1));
        Due.refused(x, "keep(0)", STATE, () -> x.keep(0));
        Due.refused(x, "keep(3)", BAD, () -> x.keep(3));
        Due.finds(x, "on(0)", NOTHING, () -> x.on(0));
        Due.refused(x, "undo(1)", BAD, () -> x.undo(1));
        Due.due("undo(0)", x.undo(0), 0);
    }
}
