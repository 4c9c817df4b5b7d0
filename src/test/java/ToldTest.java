/** Promises 37 to 43 (asked, upper, lower, count, finding, findings, digest), and the constants. */
public final class ToldTest {
    private static final int BAD = DareFord.BAD, NONE = DareFord.NONE, FINDING = DareFord.FINDING;

    public static void main(String[] args) {
        constants();
        asked();
        upperAndLower();
        count();
        countOfTheNext();
        findings();
        digest();
        digestByHand();
        Due.end();
    }

    private static void constants() {
        Due.due("BAD", DareFord.BAD, -1);
        Due.due("FULL", DareFord.FULL, -2);
        Due.due("FINDING", DareFord.FINDING, -3);
        Due.due("STATE", DareFord.STATE, -4);
        Due.due("SPENT", DareFord.SPENT, -6);
        Due.due("NONE", DareFord.NONE, -9);
    }

    private static void asked() {
        DareFord x = Due.river("f4 p109 d705");
        Due.due("asked() at first", x.asked(), 0);
        x.row(0, 1);
        x.lay(0, 0, 5);
        Due.due("asked() behind lay", x.asked(), 0);
        x.at(0, 0);
        Due.due("asked() behind at", x.asked(), 5);
        x.row(1, 2);
        x.tear(1);
        x.text(1, 2);
        x.put(1, 0, 7);
        x.night();
        x.raise(0, 1);
        x.undo(0);
        x.crosses(0, 9);
        x.first(0);
        x.lift(0, 1);
        x.odds(0, 3);
        x.mid(0, 3);
        x.fair(3);
        x.count(0);
        x.digest();
        x.upper();
        x.findings(1);
        x.mark(1, 1);
        x.dares(0, 3, 3, 3);
        Due.due("asked() behind what tells nothing by it", x.asked(), 5);
        x.at(0, 1);
        x.at(9, 0);
        x.sure(90);
        x.where(-1);
        x.duel(0, 0, 0);
        Due.due("asked() behind refusals", x.asked(), 5);
        x.where(0);
        Due.due("asked() behind where(0)", x.asked(), NONE);
        x.sets(14);
        Due.due("asked() behind sets(14)", x.asked(), 3);
        x.sure(9);
        Due.due("asked() behind sure(9)", x.asked(), 2);
        x.duel(1, 0, 0);
        Due.due("asked() behind duel", x.asked(), 1);
        x.mean(0);
        Due.due("asked() behind mean", x.asked(), 5);
        x.one(1, 1);
        Due.due("asked() behind one", x.asked(), 7);
    }

    private static void upperAndLower() {
        DareFord x = Due.river("f4 p109 d705");
        Due.ratio(x, "at first", 0, 1);
        x.odds(0, 1);
        Due.ratio(x, "odds(0, 1)", 11, 144);
        x.where(3);
        x.odds(5, 1);
        x.mid(0, 13);
        x.fair(-1);
        x.sets(-1);
        Due.ratio(x, "odds(0, 1) behind others", 11, 144);
        x.sets(9);
        Due.ratio(x, "sets(9)", 1, 1);
        x.mid(9, 12);
        Due.ratio(x, "mid(9, 12)", 5, 1);
        x.fair(12);
        Due.ratio(x, "fair(12)", 0, 1);
    }

    private static void counts(DareFord x, String when, int... wants) {
        for (int what = 0; what < 12; what++) {
            Due.due(when + ": count(" + what + ")", x.count(what), wants[what]);
        }
        Due.refused(x, "count(-1)", BAD, () -> x.count(-1));
        Due.refused(x, "count(12)", BAD, () -> x.count(12));
    }

    private static void count() {
        DareFord x = new DareFord();
        counts(x, "new", 0, 0, 0, 0, 0, 0, 0, 0, 0, 0, 0, 0);
        Due.write(x, 3, "f4 p109 d705 e312 b008 t914 q602");
        x.river(3);
        counts(x, "river", 6, 0, 0, 4, 16, 50, 0, 2, 2, 0, 1, 0);
        x.night();
        x.raise(0, 9);
        x.keep(1);
        x.row(0, 0);
        x.row(5, 3);
        x.text(0, 0);
        counts(x, "later", 6, 1, 2, 9, 1, 8 + 9 + 4 + 10 + 8 + 12, 1, 2, 2, 2, 2, 1);
        x.night();
        x.tear(0);
        x.keep(0);
        x.keep(2);
        counts(x, "at last", 6, 2, 3, 1, 1, 15 + 3 + 8 + 8 + 12, 2, 2, 2, 1, 2, 3);
    }

    private static void countOfTheNext() {
        Due.due("count(4) of nobody", Due.river("f4 e104 p200").count(4), 0);
        Due.due("count(4) of the first", Due.river("f4 p104 p204 p403").count(4), 2);
        Due.due("count(7), count(8)", Due.river("f4 q104 q204 e403 t100").count(7), 3);
        Due.due("count(8)", Due.river("f4 b104 t204 t403 q100").count(8), 3);
    }

    private static void findings() {
        DareFord x = Due.river("f4 p109 d705");
        Due.due("finding() at first", x.finding(), 0);
        for (int f = 1; f <= 5; f++) {
            Due.due("findings(" + f + ") at first", x.findings(f), 0);
        }
        Due.due("at(0, 0)", x.at(0, 0), FINDING);
        Due.due("finding()", x.finding(), 1);
        x.row(0, 0);
        Due.due("at(0, 0)", x.at(0, 0), FINDING);
        Due.due("finding()", x.finding(), 2);
        Due.due("mark(0, 1)", x.mark(0, 1), FINDING);
        Due.due("finding()", x.finding(), 3);
        Due.due("mean(0)", x.mean(0), FINDING);
        Due.due("finding()", x.finding(), 4);
        Due.due("row(0, -1)", x.row(0, -1), FINDING);
        Due.due("finding()", x.finding(), 5);
        Due.due("tear(4)", x.tear(4), FINDING);
        x.count(-1);
        x.findings(9);
        x.raise(0, 99);
        Due.due("finding() behind BAD", x.finding(), 1);
        int[] wants = {2, 1, 1, 1, 1};
        for (int f = 1; f <= 5; f++) {
            Due.due("findings(" + f + ")", x.findings(f), wants[f - 1]);
        }
        Due.refused(x, "findings(0)", BAD, () -> x.findings(0));
        Due.refused(x, "findings(6)", BAD, () -> x.findings(6));
        Due.refused(x, "findings(-1)", BAD, () -> x.findings(-1));
    }

    private static void digest() {
        DareFord x = new DareFord();
        long h = 17;
        for (int what = 0; what < 12; what++) {
            h = 31 * h;
        }
        for (int missing = 0; missing < 3 + 6 + 4; missing++) {
            h = 31 * h - 1;
        }
        Due.due("digest() at first", x.digest(), h);
        x.finding();
        x.at(0, 0);
        Due.due("digest() behind a finding", x.digest(), h);
    }

    private static void digestByHand() {
        DareFord x = Due.river("f4 p109 q602 t914");
        x.night();
        x.keep(1);
        x.door(0, 8);
        Due.write(x, 2, 5, -6);
        x.row(4, 0);
        x.text(3, 2);
        x.put(3, 1, 200);
        x.at(2, 1);
        long h = 17;
        int[] numbers = {3, 1, 2, 9, 4, 20, 1, 1, 1, 2, 2, 1,
            0, 8, 8, 8, 0, 1, 5, 6, 0, 10, 0, 3, 4, 9, 12, 12, 1, 0,
            -1, 1, -1,
            -1, -1, 2, 5, -6, -1, 0, -1,
            17, 'f', '4', ' ', 'p', '1', '0', '9', ' ', 'q', '6', '0', '2', ' ', 't', '9', '1', '4', -1, -1, 2, 32, -56};
        for (int number : numbers) {
            h = 31 * h + number;
        }
        Due.due("digest() by hand", x.digest(), h);
        Due.due("asked() stays", x.asked(), -6);
    }
}
