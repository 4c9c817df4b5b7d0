/** Promises 33 to 36: odds, mid, fair, lots. */
public final class ChancesTest {
    private static final int BAD = DareFord.BAD, STATE = DareFord.STATE, FULL = DareFord.FULL, NONE = DareFord.NONE;

    public static void main(String[] args) {
        odds();
        mid();
        fair();
        refused();
        lots();
        lotsClamped();
        lotsRefused();
        Due.end();
    }

    private static void oddsIs(DareFord x, int i, int p, long upper, long lower) {
        String call = "odds(" + i + ", " + p + ")";
        int asked = x.asked();
        Due.due(call, x.odds(i, p), 1);
        Due.ratio(x, call, upper, lower);
        Due.due(call + ": asked()", x.asked(), asked);
    }

    private static void odds() {
        DareFord x = Due.river("f4 p109 d705 e304");
        oddsIs(x, 1, 0, 1, 1);
        oddsIs(x, 0, 0, 0, 1);
        oddsIs(x, 1, 1, 11, 12);
        oddsIs(x, 0, 1, 11, 144);
        oddsIs(x, 2, 1, 0, 1);
        oddsIs(x, 1, 3, 3, 4);
        oddsIs(x, 0, 3, 3, 16);
        oddsIs(x, 0, 6, 1, 4);
        oddsIs(x, 0, 12, 0, 1);
        DareFord six = Due.river("f4 p109 p108 p107 p106 p105 p104");
        oddsIs(six, 5, 11, 161051, 2985984);
        oddsIs(six, 5, 1, 11, 2985984);
        oddsIs(six, 0, 5, 7, 12);
        DareFord alike = Due.river("f4 p209 p409");
        oddsIs(alike, 1, 4, 2, 3);
        oddsIs(alike, 0, 4, 2, 9);
    }

    private static void midIs(DareFord x, int place, int p, long upper, long lower) {
        String call = "mid(" + place + ", " + p + ")";
        int asked = x.asked();
        Due.due(call, x.mid(place, p), 1);
        Due.ratio(x, call, upper, lower);
        Due.due(call + ": asked()", x.asked(), asked);
    }

    private static void mid() {
        DareFord x = Due.river("f4 p109 d705 e304");
        midIs(x, 0, 0, 7, 1);
        midIs(x, 7, 0, 0, 1);
        midIs(x, 9, 12, 5, 1);
        midIs(x, 4, 12, 0, 1);
        midIs(x, 4, 6, 9, 4);
        midIs(x, 0, 6, 19, 4);
        midIs(x, 9, 3, 2 * 12 + 8 * 3 + 5, 16);
        DareFord six = Due.river("f4 p109 p208 p307 p406 p505 p604");
        midIs(six, 0, 0, 1, 1);
        midIs(six, 0, 12, 4, 1);
        midIs(six, 0, 6, (32 * 1 + 16 * 2 + 8 * 3 + 4 * 4 + 2 * 5 + 6 + 4) / 4, 64 / 4);
    }

    private static void fairIs(DareFord x, int p, int place, long upper, long lower) {
        String call = "fair(" + p + ")";
        int asked = x.asked();
        Due.due(call, x.fair(p), place);
        Due.ratio(x, call, upper, lower);
        Due.due(call + ": asked()", x.asked(), asked);
    }

    private static void fair() {
        DareFord x = Due.river("f4 p109 d705 e304");
        fairIs(x, 0, 7, 0, 1);
        fairIs(x, 3, 7, 21, 16);
        fairIs(x, 12, 4, 0, 1);
        DareFord two = Due.river("f8 p209");
        fairIs(two, 6, 2, 3, 1);
        fairIs(two, 7, 8, 5, 2);
        fairIs(two, 5, 2, 5, 2);
        fairIs(Due.river("f5 p009"), 0, 0, 0, 1);
        fairIs(Due.river("f5 p109"), 0, 1, 0, 1);
        DareFord all = Due.river("f9 p009 d905 p100");
        fairIs(all, 12, 9, 0, 1);
    }

    private static void refused() {
        DareFord x = Due.river("f4 p109 d705");
        x.mid(3, 5);
        Due.refused(x, "odds(2, 1)", BAD, () -> x.odds(2, 1));
        Due.refused(x, "odds(-1, 1)", BAD, () -> x.odds(-1, 1));
        Due.refused(x, "odds(0, 13)", BAD, () -> x.odds(0, 13));
        Due.refused(x, "odds(0, -1)", BAD, () -> x.odds(0, -1));
        Due.refused(x, "mid(10, 1)", BAD, () -> x.mid(10, 1));
        Due.refused(x, "mid(-1, 1)", BAD, () -> x.mid(-1, 1));
        Due.refused(x, "mid(0, 13)", BAD, () -> x.mid(0, 13));
        Due.refused(x, "mid(0, -1)", BAD, () -> x.mid(0, -1));
        Due.refused(x, "fair(13)", BAD, () -> x.fair(13));
        Due.refused(x, "fair(-1)", BAD, () -> x.fair(-1));
        long digest = x.digest();
        x.odds(1, 5);
        x.fair(5);
        Due.due("digest() behind chances", x.digest(), digest);
        DareFord y = new DareFord();
        Due.refused(y, "odds(0, 1) without PEOPLE", BAD, () -> y.odds(0, 1));
        Due.refused(y, "mid(0, 1) without PEOPLE", STATE, () -> y.mid(0, 1));
        Due.refused(y, "mid(10, 1) without PEOPLE", BAD, () -> y.mid(10, 1));
        Due.refused(y, "fair(1) without PEOPLE", STATE, () -> y.fair(1));
        Due.refused(y, "fair(13) without PEOPLE", BAD, () -> y.fair(13));
    }

    /** The first lot of seed 1 is 48271: of three the second, RAISED (48271 / 8 % 8 is 1) by 5. */
    private static void lots() {
        DareFord x = Due.river("f4 p109 d705 e304");
        Due.due("lots(1, 1)", x.lots(1, 1), 4);
        Due.due("count(2)", x.count(2), 1);
        Due.told(x, "DARING of the second", x.one(1, 2), 10);
        for (int seed = 1; seed < 400; seed += 7) {
            lotsAsDeeds(seed, 20);
        }
        lotsAsDeeds(2147483646, 20);
        lotsAsDeeds(1234567890, 1);
    }

    /** What lots do is done by hand on another river. */
    private static void lotsAsDeeds(int seed, int n) {
        String text = "f4 p120 d700 e304 b008 t914";
        DareFord x = Due.river(text);
        DareFord y = Due.river(text);
        long lot = seed;
        int deeds = 0;
        for (int d = 0; d < n; d++) {
            lot = lot * 48271 % 2147483647;
            int who = (int) (lot % 5);
            int what = (int) (lot / 8 % 8);
            int by = (int) (lot / 64 % 5) + 1;
            if (what < 3) {
                y.one(who, 2);
                int daring = y.asked();
                int truly = what < 2 ? Math.min(by, 20 - daring) : Math.min(by, daring);
                if (truly > 0) {
                    int done = what < 2 ? y.raise(who, truly) : y.shame(who, truly);
                    Due.due("by hand", done < 0 ? 1 : 0, 0);
                    deeds++;
                }
            } else if (what == 3) {
                deeds += y.door(who, (int) (lot / 64 % 10)) < 0 ? 0 : 1;
            } else {
                y.night();
                deeds++;
            }
        }
        Due.due("lots(" + n + ", " + seed + ")", x.lots(n, seed), y.count(3));
        Due.due("count(2)", x.count(2), n);
        Due.due("count(2), by hand", y.count(2), deeds);
        Due.due("count(1)", x.count(1), y.count(1));
        for (int i = 0; i < 5; i++) {
            for (int what = 0; what < 6; what++) {
                y.one(i, what);
                Due.told(x, "lots(.., " + seed + "): one(" + i + ", " + what + ")", x.one(i, what), y.asked());
            }
        }
    }

    private static void lotsClamped() {
        DareFord x = Due.river("f4 b120 b000");
        long digest = x.digest();
        Due.due("lots(20, 5)", x.lots(20, 5) < 0 ? 1 : 0, 0);
        Due.due("lots(20, 77)", x.lots(20, 77) < 0 ? 1 : 0, 0);
        Due.due("count(2)", x.count(2), 40);
        long full = x.digest();
        x.keep(0);
        Due.due("undo(0)", x.undo(0), 40);
        x.on(0);
        Due.due("count(2) again", x.count(2), 40);
        x.undo(20);
        x.lots(20, 77);
        DareFord y = Due.river("f4 b120 b000");
        y.lots(20, 5);
        y.lots(20, 77);
        Due.due("the same lots, the same digest()", y.digest(), full);
        y.undo(0);
        Due.due("undone, the digest() of the first", y.digest(), digest);
    }

    private static void lotsRefused() {
        DareFord x = Due.river("f4 p109 d705");
        Due.refused(x, "lots(0, 1)", BAD, () -> x.lots(0, 1));
        Due.refused(x, "lots(21, 1)", BAD, () -> x.lots(21, 1));
        Due.refused(x, "lots(1, 0)", BAD, () -> x.lots(1, 0));
        Due.refused(x, "lots(1, -1)", BAD, () -> x.lots(1, -1));
        Due.refused(x, "lots(1, 2147483647)", BAD, () -> x.lots(1, 2147483647));
        x.lots(20, 3);
        x.night();
        Due.refused(x, "lots(20, 1) behind 21", FULL, () -> x.lots(20, 1));
        Due.due("lots(19, 1) behind 21", x.lots(19, 1) < 0 ? 1 : 0, 0);
        Due.refused(x, "lots(1, 1), full", FULL, () -> x.lots(1, 1));
        Due.refused(x, "lots(21, 1), full", BAD, () -> x.lots(21, 1));
        DareFord y = new DareFord();
        Due.refused(y, "lots(1, 1) without PEOPLE", STATE, () -> y.lots(1, 1));
        Due.refused(y, "lots(1, 0) without PEOPLE", BAD, () -> y.lots(1, 0));
    }
}
