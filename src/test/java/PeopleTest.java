/** Promises 12 and 13: one, mark. */
public final class PeopleTest {
    private static final int BAD = DareFord.BAD;
    private static final int UNLIKE = 3;

    public static void main(String[] args) {
        one();
        oneRefused();
        betsByDistance();
        drunkMark();
        fearfulMark();
        bredMark();
        betMark();
        quietMark();
        markOfEach();
        markRefused();
        Due.end();
    }

    private static void tells(DareFord x, int i, int... wants) {
        for (int what = 0; what < 6; what++) {
            Due.told(x, "one(" + i + ", " + what + ")", x.one(i, what), wants[what]);
        }
    }

    private static void one() {
        DareFord x = Due.river("f4 p109 d705 e312 b008 t914 q602");
        tells(x, 0, 0, 1, 9, 9, 0, 3);
        tells(x, 1, 1, 7, 5, 10, 0, 3);
        tells(x, 2, 2, 3, 12, 12, 0, 1);
        tells(x, 3, 3, 0, 8, 8, 0, 4);
        tells(x, 4, 4, 9, 14, 17, 0, 5);
        tells(x, 5, 5, 6, 2, 10, 0, 2);
        x.night();
        tells(x, 0, 0, 1, 8, 8, 0, 8);
        tells(x, 1, 1, 7, 4, 4, 0, 2);
        tells(x, 2, 2, 3, 10, 10, 0, 6);
        tells(x, 3, 3, 0, 8, 8, 0, 9);
        tells(x, 4, 4, 9, 12, 12, 1, 0);
        tells(x, 5, 5, 6, 0, 10, 0, 3);
        x.night();
        tells(x, 1, 1, 7, 3, 6, 0, 2);
        tells(x, 4, 4, 9, 10, 10, 2, 0);
    }

    private static void oneRefused() {
        DareFord x = Due.river("f4 p109 d705");
        x.one(0, 2);
        Due.refused(x, "one(2, 0)", BAD, () -> x.one(2, 0));
        Due.refused(x, "one(-1, 0)", BAD, () -> x.one(-1, 0));
        Due.refused(x, "one(0, -1)", BAD, () -> x.one(0, -1));
        Due.refused(x, "one(0, 6)", BAD, () -> x.one(0, 6));
    }

    private static void betsByDistance() {
        int[] wants = {5, 6, 7, 8, 8, 8, 8, 8, 8, 8};
        for (int far = 0; far <= 9; far++) {
            DareFord x = Due.river("f0 t" + far + "05");
            Due.told(x, "one who BETS, " + far + " apart", x.one(0, 3), wants[far]);
            Due.told(x, "the distance", x.one(0, 5), far);
        }
    }

    private static void drunkMark() {
        DareFord x = Due.river("f4 d107 p200");
        Due.due("mark(0, 1) before night 0", x.mark(0, 1), 7);
        x.night();
        Due.due("mark(0, 1) before night 1, DARING 5", x.mark(0, 1), 10);
    }

    private static void fearfulMark() {
        int[] darings = {0, 4, 5, 6, 20};
        int[] wants = {5, 1, 0, 0, 0};
        for (int d = 0; d < darings.length; d++) {
            String two = (darings[d] < 10 ? "0" : "") + darings[d];
            DareFord x = Due.river("f4 e1" + two + " q2" + two);
            Due.due("mark(0, 2) of " + two, x.mark(0, 2), wants[d]);
            Due.due("mark(1, 2) of " + two, x.mark(1, 2), wants[d]);
        }
    }

    private static void bredMark() {
        DareFord x = Due.river("f4 p109 b109 t110 p108 e000 b109");
        Due.due("mark(1, 3)", x.mark(1, 3), 2);
        Due.due("mark(2, 3)", x.mark(2, 3), 5);
        DareFord y = Due.river("f4 b100");
        Due.due("mark(0, 3) alone", y.mark(0, 3), 0);
    }

    private static void betMark() {
        int[] wants = {0, 1, 2, 3, 3, 3};
        for (int far = 0; far < wants.length; far++) {
            DareFord x = Due.river("f" + far + " t009");
            Due.due("mark(0, 4), " + far + " apart", x.mark(0, 4), wants[far]);
        }
    }

    private static void quietMark() {
        String[] darings = {"00", "04", "05", "09", "20"};
        int[] wants = {0, 0, 5, 9, 20};
        for (int d = 0; d < wants.length; d++) {
            DareFord x = Due.river("f4 q1" + darings[d]);
            Due.due("mark(0, 5) of " + darings[d], x.mark(0, 5), wants[d]);
        }
    }

    /** Each by its own DARING, DOOR and KIND, wherever among PEOPLE it stands. */
    private static void markOfEach() {
        DareFord x = Due.river("f4 b720 d103 e302 q006 t709 d905");
        int[][] wants = {
            {-1, -1, 5, -1, -1},
            {3, -1, -1, -1, -1},
            {-1, 3, -1, -1, -1},
            {-1, 0, -1, -1, 6},
            {-1, -1, 4, 3, -1},
            {5, -1, -1, -1, -1},
        };
        for (int i = 0; i < 6; i++) {
            for (int kind = 1; kind <= 5; kind++) {
                int want = wants[i][kind - 1] < 0 ? DareFord.FINDING : wants[i][kind - 1];
                Due.due("mark(" + i + ", " + kind + ") of each", x.mark(i, kind), want);
            }
        }
        x.night();
        Due.due("mark(1, 1) in NIGHT 2", x.mark(1, 1), 4);
        Due.due("mark(5, 1) in NIGHT 2", x.mark(5, 1), 8);
        Due.due("mark(4, 4), the FORD at its DOOR", x.mark(4, 4), 0);
        DareFord y = Due.river("f4 t404 t605 t306");
        Due.due("mark(0, 4)", y.mark(0, 4), 0);
        Due.due("mark(1, 4)", y.mark(1, 4), 2);
        Due.due("mark(2, 4)", y.mark(2, 4), 1);
    }

    private static void markRefused() {
        String six = "f4 p109 d705 e312 b008 t914 q602";
        boolean[][] is = {
            {false, false, false, false, false},
            {true, false, false, false, false},
            {false, true, false, false, false},
            {false, false, true, false, false},
            {false, false, true, true, false},
            {false, true, false, false, true},
        };
        for (int i = 0; i < 6; i++) {
            DareFord x = Due.river(six);
            for (int kind = 1; kind <= 5; kind++) {
                int who = i;
                int of = kind;
                if (!is[i][kind - 1]) {
                    Due.finds(x, "mark(" + i + ", " + kind + ")", UNLIKE, () -> x.mark(who, of));
                }
            }
            int who = i;
            Due.refused(x, "mark(i, 0)", BAD, () -> x.mark(who, 0));
            Due.refused(x, "mark(i, 6)", BAD, () -> x.mark(who, 6));
            Due.refused(x, "mark(i, -1)", BAD, () -> x.mark(who, -1));
        }
        DareFord x = Due.river(six);
        Due.refused(x, "mark(6, 1)", BAD, () -> x.mark(6, 1));
        Due.refused(x, "mark(-1, 1)", BAD, () -> x.mark(-1, 1));
    }
}
