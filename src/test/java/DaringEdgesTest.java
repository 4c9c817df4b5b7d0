/**
 * How much one DARES, how DARING FADES, a NIGHT and RAISING, SHAMING with DARING at 0, 5 and 20 and beside them,
 * for each KIND (Terms 1 and 2; promises 12 to 17).
 */
public final class DaringEdgesTest {
    private static final int STATE = DareFord.STATE, FINDING = DareFord.FINDING, NONE = DareFord.NONE;
    private static final int PERSON = 0, DRUNK = 1, FEARFUL = 2, BRED = 3, BET = 4, QUIET = 5;
    private static final String LETTERS = "pdebtq";
    private static final int[] DARINGS = {0, 1, 2, 3, 4, 5, 6, 9, 10, 11, 19, 20};

    public static void main(String[] args) {
        daresOfPersonAndBred();
        daresOfDrunk();
        daresOfFearful();
        daresOfQuiet();
        daresOfBet();
        marks();
        marksOfDrunkInTime();
        fadesOfOthers();
        whoCrosses();
        crossesBeyondDaring();
        likeOnes();
        nobodyAbove();
        betFromWhereItIs();
        raisedTo();
        shamedTo();
        deedsLeaveTheRest();
        doorsMove();
        Due.end();
    }

    private static String two(int daring) {
        return (daring < 10 ? "0" : "") + daring;
    }

    /** One of a KIND at PLACE 4, the FORD so far from it (0 .. 4). */
    private static DareFord alone(int kind, int daring, int far) {
        return Due.river("f" + (4 - far) + LETTERS.charAt(kind) + "4" + two(daring));
    }

    private static void daresIs(int kind, int daring, int number, int far, int want) {
        DareFord x = alone(kind, daring, 2);
        Due.due("dares(0, " + daring + ", " + number + ", " + far + ") of " + LETTERS.charAt(kind),
            x.dares(0, daring, number, far), want);
    }

    private static void nextIs(int kind, int daring, int far, int want) {
        DareFord x = alone(kind, daring, far);
        String call = LETTERS.charAt(kind) + " of " + daring + ", " + far + " apart";
        Due.told(x, call + ": one(0, 3)", x.one(0, 3), want);
        Due.told(x, call + ": one(0, 2)", x.one(0, 2), daring);
        Due.told(x, call + ": one(0, 5)", x.one(0, 5), far);
        Due.due(call + ": count(4)", x.count(4), want > 0 ? 1 : 0);
        Due.due(call + ": night()", x.night(), want > 0 ? 0 : NONE);
        Due.due(call + ": the FORD then", x.count(3), want > 0 ? 4 : 4 - far);
    }

    // ---- how much one dares

    private static void daresOfPersonAndBred() {
        for (int daring : DARINGS) {
            for (int kind = PERSON; kind <= BRED; kind += BRED) {
                nextIs(kind, daring, 0, daring);
                nextIs(kind, daring, 4, daring);
                daresIs(kind, daring, 0, 9, daring);
                daresIs(kind, daring, 99, 0, daring);
            }
        }
    }

    /** Twice as much in a NIGHT of an even number, 0 among them. */
    private static void daresOfDrunk() {
        for (int daring : DARINGS) {
            nextIs(DRUNK, daring, 0, 2 * daring);
            nextIs(DRUNK, daring, 4, 2 * daring);
            for (int number : new int[] {0, 2, 98}) {
                daresIs(DRUNK, daring, number, 9, 2 * daring);
                daresIs(DRUNK, daring, number + 1, 9, daring);
            }
        }
    }

    /** 0, if it is below 5. */
    private static void daresOfFearful() {
        int[] wants = {0, 0, 0, 0, 0, 5, 6, 9, 10, 11, 19, 20};
        for (int d = 0; d < DARINGS.length; d++) {
            nextIs(FEARFUL, DARINGS[d], 0, wants[d]);
            nextIs(FEARFUL, DARINGS[d], 4, wants[d]);
            daresIs(FEARFUL, DARINGS[d], 0, 9, wants[d]);
            daresIs(FEARFUL, DARINGS[d], 99, 0, wants[d]);
        }
    }

    /** 10 less what a FEARFUL one does, 0 at least. */
    private static void daresOfQuiet() {
        int[] wants = {10, 10, 10, 10, 10, 5, 4, 1, 0, 0, 0, 0};
        for (int d = 0; d < DARINGS.length; d++) {
            nextIs(QUIET, DARINGS[d], 0, wants[d]);
            nextIs(QUIET, DARINGS[d], 4, wants[d]);
            daresIs(QUIET, DARINGS[d], 0, 9, wants[d]);
            daresIs(QUIET, DARINGS[d], 99, 0, wants[d]);
        }
    }

    /** As many more as FORD and DOOR are apart, 3 at most; 23 by a DARING of 20. */
    private static void daresOfBet() {
        int[] more = {0, 1, 2, 3, 3};
        for (int daring : DARINGS) {
            for (int far = 0; far <= 4; far++) {
                nextIs(BET, daring, far, daring + more[far]);
                daresIs(BET, daring, 0, far, daring + more[far]);
            }
            daresIs(BET, daring, 99, 9, daring + 3);
        }
        DareFord behind = Due.river("f9 t005");
        Due.told(behind, "one(0, 5), 9 apart", behind.one(0, 5), 9);
        Due.told(behind, "one(0, 3), 9 apart", behind.one(0, 3), 8);
        DareFord ahead = Due.river("f0 t905");
        Due.told(ahead, "one(0, 5), 9 apart", ahead.one(0, 5), 9);
        Due.told(ahead, "one(0, 3), 9 apart", ahead.one(0, 3), 8);
    }

    // ---- marks

    private static void marks() {
        for (int daring : DARINGS) {
            DareFord x = Due.river("f4 p" + "1" + two(daring) + "d1" + two(daring) + "e1" + two(daring)
                + "b1" + two(daring) + "t1" + two(daring) + "q1" + two(daring));
            int fears = daring < 5 ? 0 : daring;
            int[][] wants = {
                {FINDING, FINDING, FINDING, FINDING, FINDING},
                {daring, FINDING, FINDING, FINDING, FINDING},
                {FINDING, Math.max(0, 5 - daring), FINDING, FINDING, FINDING},
                {FINDING, FINDING, 0, FINDING, FINDING},
                {FINDING, FINDING, 0, 3, FINDING},
                {FINDING, Math.max(0, 5 - daring), FINDING, FINDING, fears},
            };
            for (int i = 0; i < 6; i++) {
                for (int kind = 1; kind <= 5; kind++) {
                    Due.due("mark(" + i + ", " + kind + ") of " + daring, x.mark(i, kind), wants[i][kind - 1]);
                }
            }
        }
        DareFord bred = Due.river("f4 b120 p119 d120 t100 q100 b101");
        Due.due("mark(0, 3): all below but those alike", bred.mark(0, 3), 4);
        Due.due("mark(3, 3): none below", bred.mark(3, 3), 0);
        Due.due("mark(5, 3)", bred.mark(5, 3), 2);
    }

    /** In the NIGHT behind the next one, DARING as now. */
    private static void marksOfDrunkInTime() {
        DareFord x = Due.river("f4 d120 p900");
        int[] darings = {20, 18, 16, 14, 12, 10, 8, 6, 4, 2, 0, 0};
        for (int number = 0; number < darings.length; number++) {
            int odd = darings[number];
            int even = 2 * darings[number];
            Due.told(x, "one(0, 3) before NIGHT " + number, x.one(0, 3), number % 2 == 0 ? even : odd);
            Due.due("mark(0, 1) before NIGHT " + number, x.mark(0, 1), number % 2 == 0 ? odd : even);
            x.night();
        }
    }

    // ---- nights

    /** All others FADE: by 1, FEARFUL and QUIET ones by 2, BRED ones and such as BET not; 0 at least. */
    private static void fadesOfOthers() {
        int[] less = {1, 1, 2, 0, 0, 2};
        for (int of : DARINGS) {
            for (int kind = 0; kind < 6; kind++) {
                int daring = Math.min(of, kind == DRUNK ? 11 : 20);
                DareFord x = Due.river("f0 t320 " + LETTERS.charAt(kind) + "9" + two(daring) + "p009");
                String call = LETTERS.charAt(kind) + " of " + daring;
                Due.due("who has it, ahead of " + call, x.night(), 0);
                Due.told(x, call + ", faded", x.one(1, 2), Math.max(0, daring - less[kind]));
                Due.told(x, "DARING of the last", x.one(2, 2), 8);
                Due.told(x, call + ", how often it CROSSED", x.one(1, 4), 0);
            }
        }
        fadesOfAll();
    }

    /** Nobody has it: all FADE, at 20 and at 0 likewise. */
    private static void fadesOfAll() {
        DareFord x = Due.river("f4 e104 e101 e100 q120 q111 q110");
        Due.due("night() of nobody", x.night(), NONE);
        int[] first = {2, 0, 0, 18, 9, 8};
        for (int i = 0; i < 6; i++) {
            Due.told(x, "faded by nobody's NIGHT: " + i, x.one(i, 2), first[i]);
            Due.told(x, "nobody CROSSED: " + i, x.one(i, 4), 0);
        }
        Due.due("the first QUIET one who dares", x.night(), 5);
    }

    /** Who has it CROSSES: 2 less, whichever KIND, 0 at least. */
    private static void whoCrosses() {
        int[] crossing = {1, 2, 3, 4, 5, 6, 20};
        for (int daring : crossing) {
            for (int kind = 0; kind < 6; kind++) {
                DareFord x = alone(kind, daring, 0);
                x.one(0, 3);
                if (x.asked() > 0) {
                    Due.due("night()", x.night(), 0);
                    Due.told(x, "DARING of " + kind + " by " + daring + ", CROSSED", x.one(0, 2), Math.max(0, daring - 2));
                    Due.told(x, "how often", x.one(0, 4), 1);
                }
            }
        }
    }

    private static void crossesBeyondDaring() {
        DareFord bet = alone(BET, 0, 3);
        Due.due("night() of one who BETS, DARING 0", bet.night(), 0);
        Due.told(bet, "its DARING", bet.one(0, 2), 0);
        Due.told(bet, "how often", bet.one(0, 4), 1);
        Due.due("night(), the FORD at its DOOR", bet.night(), NONE);
        Due.told(bet, "how often", bet.one(0, 4), 1);
        DareFord quiet = alone(QUIET, 0, 3);
        Due.due("night() of a QUIET one, DARING 0", quiet.night(), 0);
        Due.due("night() again", quiet.night(), 0);
        Due.told(quiet, "its DARING", quiet.one(0, 2), 0);
        Due.told(quiet, "how often", quiet.one(0, 4), 2);
    }

    // ---- who has it

    private static void holderIs(String text, int want) {
        DareFord x = Due.river(text);
        Due.due("'" + text + "': count(4)", x.count(4), want == NONE ? 0 : 1 << want);
        Due.due("'" + text + "': night()", x.night(), want);
    }

    /** Of like ones the one whose DOOR is nearest to it, of like ones of these the first. */
    private static void likeOnes() {
        holderIs("f4 p120 p720 p020 p920 p220 p620", 4);
        holderIs("f4 p120 p720 p020 p920 p620 p220", 4);
        holderIs("f4 p520 p320 p420", 2);
        holderIs("f4 p420 p420 p420", 0);
        holderIs("f0 p920 p920 p820", 2);
        holderIs("f9 p020 p020 p120", 2);
        holderIs("f4 p910 d405 e410 q404 b410 t210", 5);
        holderIs("f4 p910 d405 e410 q404 b410", 1);
        holderIs("f4 p910 d305 e410 q404 b410", 2);
        holderIs("f4 b501 q410 e404", 0);
        holderIs("f4 p501 d300 q409 e404", 2);
        holderIs("f4 p502 p301 q409 e404", 0);
        holderIs("f4 p119 p120", 1);
        holderIs("f4 p120 t918", 1);
        holderIs("f4 p120 t917", 0);
        holderIs("f4 p520 t917", 0);
        holderIs("f4 p020 t717", 1);
    }

    /** If nobody DARES more than 0 it stays, and nobody has it. */
    private static void nobodyAbove() {
        holderIs("f4 p400", NONE);
        holderIs("f4 p400 d400 e404 b400 t400 q410", NONE);
        holderIs("f4 p400 d400 e404 b400 t300 q420", 4);
        holderIs("f4 p400 d401 e404 b400 t400 q420", 1);
        holderIs("f4 p400 d400 e405 b400 t400 q420", 2);
        holderIs("f4 p400 d400 e404 b401 t400 q420", 3);
        holderIs("f4 p400 d400 e404 b400 t400 q409", 5);
    }

    /** By where the FORD is that NIGHT, not where it was or comes to. */
    private static void betFromWhereItIs() {
        DareFord x = Due.river("f9 t018 b920");
        Due.due("night() 0", x.night(), 0);
        Due.told(x, "one(0, 3), the FORD at its DOOR", x.one(0, 3), 16);
        Due.told(x, "one(1, 5)", x.one(1, 5), 9);
        Due.due("night() 1", x.night(), 1);
        Due.told(x, "one(0, 3), the FORD 9 off", x.one(0, 3), 19);
        Due.due("night() 2", x.night(), 0);
    }

    // ---- raised, shamed, another door

    private static void raisedTo() {
        for (int daring = 0; daring <= 20; daring++) {
            for (int n = 1; n <= 9; n++) {
                DareFord x = alone(daring % 6, daring, 1);
                String call = "raise(0, " + n + ") from " + daring;
                if (daring + n <= 20) {
                    Due.due(call, x.raise(0, n), daring + n);
                    Due.told(x, call + ", DARING", x.one(0, 2), daring + n);
                    Due.due(call + ", DEEDS", x.count(2), 1);
                } else {
                    int by = n;
                    Due.refused(x, call, STATE, () -> x.raise(0, by));
                }
            }
        }
    }

    private static void shamedTo() {
        for (int daring = 0; daring <= 20; daring++) {
            for (int n = 1; n <= 9; n++) {
                DareFord x = alone(daring % 6, daring, 1);
                String call = "shame(0, " + n + ") from " + daring;
                if (daring >= n) {
                    Due.due(call, x.shame(0, n), daring - n);
                    Due.told(x, call + ", DARING", x.one(0, 2), daring - n);
                    Due.due(call + ", DEEDS", x.count(2), 1);
                } else {
                    int by = n;
                    Due.refused(x, call, STATE, () -> x.shame(0, by));
                }
            }
        }
    }

    /** A DEED that is no NIGHT: no NIGHT passes, nobody CROSSES, nobody FADES, the FORD stays. */
    private static void deedsLeaveTheRest() {
        DareFord x = Due.river("f4 p109 d705 e312");
        x.night();
        x.raise(0, 5);
        x.shame(2, 3);
        x.door(1, 0);
        int[] wants = {3, 1, 4, 3, 1, 13 + 4 + 7, 1, 1, 0, 0, 1, 0};
        for (int what = 0; what < 12; what++) {
            Due.due("count(" + what + ")", x.count(what), wants[what]);
        }
    }

    private static void doorsMove() {
        for (int was = 0; was <= 9; was++) {
            for (int place = 0; place <= 9; place++) {
                DareFord x = Due.river("f4 p" + was + "09 b909");
                int to = place;
                String call = "door(0, " + place + ") from " + was;
                if (was == place) {
                    Due.refused(x, call, STATE, () -> x.door(0, to));
                } else {
                    Due.due(call, x.door(0, place), was);
                    Due.told(x, call + ": one(0, 1)", x.one(0, 1), place);
                    Due.told(x, call + ": one(0, 5)", x.one(0, 5), Math.abs(4 - place));
                    Due.told(x, call + ": one(1, 1)", x.one(1, 1), 9);
                    Due.due(call + ": night()", x.night(), place == 9 || Math.abs(4 - place) <= 5 ? 0 : 1);
                    Due.due(call + ": the FORD", x.count(3), place);
                }
            }
        }
    }
}
