/** Promise 32: duel. */
public final class DuelTest {
    private static final int BAD = DareFord.BAD;

    public static void main(String[] args) {
        duel();
        most();
        third();
        behindDeeds();
        changesNothing();
        refused();
        Due.end();
    }

    private static void duelIs(String text, int i, int j, int n, int want) {
        DareFord x = Due.river(text);
        Due.told(x, "'" + text + "': duel(" + i + ", " + j + ", " + n + ")", x.duel(i, j, n), want);
    }

    private static void duel() {
        duelIs("f4 p309 p508", 0, 1, 0, 1);
        duelIs("f4 p309 p508", 1, 0, 0, -1);
        duelIs("f4 p309 p508", 0, 1, 1, 1);
        duelIs("f4 p309 p508", 1, 0, 1, -1);
        duelIs("f4 p309 p509", 0, 1, 3, 1);
        duelIs("f4 p309 p509", 1, 0, 3, -1);
        duelIs("f4 p309 d506", 0, 1, 0, -1);
        duelIs("f4 p309 d506", 0, 1, 1, -1);
        duelIs("f4 p309 d506", 1, 0, 3, 1);
        duelIs("f4 p312 d504", 0, 1, 1, 1);
        duelIs("f4 p312 d504", 0, 1, 2, 1);
        duelIs("f4 p312 d504", 0, 1, 3, -1);
        duelIs("f4 e304 q507", 0, 1, 1, 1);
        duelIs("f4 e304 q507", 0, 1, 0, -1);
        duelIs("f4 e301 q504", 1, 0, 2, 1);
        duelIs("f4 q505 p307", 0, 1, 1, -1);
        duelIs("f4 q505 p307", 1, 0, 1, 1);
    }

    private static void most() {
        duelIs("f4 p319 p518", 1, 0, 3, -1);
        duelIs("f4 p319 p520", 0, 1, 1, 1);
        duelIs("f4 p119 p520", 0, 1, 3, -1);
    }

    private static void third() {
        duelIs("f4 p309 p508 b420", 0, 1, 3, 0);
        duelIs("f4 p309 p508 b910", 0, 1, 0, 0);
        duelIs("f4 p309 p508 b910", 0, 1, 1, 1);
        duelIs("f4 p308 p908 b410", 0, 1, 1, 0);
        duelIs("f4 e102 e203", 0, 1, 0, 0);
        duelIs("f4 e102 e203", 1, 0, 1, 1);
        duelIs("f4 e102 e203", 0, 1, 1, -1);
    }

    private static void behindDeeds() {
        DareFord x = Due.river("f4 p309 p508");
        x.raise(1, 4);
        Due.told(x, "duel(0, 1, 0) behind a raising", x.duel(0, 1, 0), -1);
        x.night();
        x.night();
        x.shame(1, 8);
        Due.told(x, "duel(0, 1, 3) behind NIGHTS", x.duel(0, 1, 3), 1);
    }

    private static void changesNothing() {
        DareFord x = Due.river("f4 p109 d705 e312 b008 t914 q602");
        long digest = x.digest();
        for (int i = 0; i < 6; i++) {
            for (int j = 0; j < 6; j++) {
                if (i != j) {
                    x.duel(i, j, 3);
                }
            }
        }
        Due.due("digest() behind duels", x.digest(), digest);
    }

    private static void refused() {
        DareFord x = Due.river("f4 p309 p508");
        x.at(0, 0);
        Due.refused(x, "duel(0, 0, 1)", BAD, () -> x.duel(0, 0, 1));
        Due.refused(x, "duel(0, 2, 1)", BAD, () -> x.duel(0, 2, 1));
        Due.refused(x, "duel(2, 0, 1)", BAD, () -> x.duel(2, 0, 1));
        Due.refused(x, "duel(-1, 0, 1)", BAD, () -> x.duel(-1, 0, 1));
        Due.refused(x, "duel(0, -1, 1)", BAD, () -> x.duel(0, -1, 1));
        Due.refused(x, "duel(0, 1, 4)", BAD, () -> x.duel(0, 1, 4));
        Due.refused(x, "duel(0, 1, -1)", BAD, () -> x.duel(0, 1, -1));
    }
}
