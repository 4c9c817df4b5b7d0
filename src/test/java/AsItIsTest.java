/**
 * Each call is about the RIVER as it is now, not as it began and not as a TEXT that was only looked at: one that
 * came to be by DEEDS answers as one whose TEXT tells it as it is, whatever fault() or river() read ahead.
 */
public final class AsItIsTest {
    private static final int RUNS = 120, STATE = DareFord.STATE, NONE = DareFord.NONE;
    private static final String LETTERS = "pdebtq";
    /** None of them is a RIVER: some have no PEOPLE, some fewer, some six others ahead of their FAULT. */
    private static final String[] FAULTY = {"", "f", "f9", "f8x", "f3 e9", "f8 e920 x", "f0 q000 q000 p1",
        "f1p101d102e103b104t105q100x", "f9q900q900q900q900q900q900q", "f5t920t920t920t920t9"};

    private interface Call {
        int make(DareFord x, int i, int n);
    }

    private static long lot = 7;

    public static void main(String[] args) {
        told();
        comes();
        raisedAndShamed();
        byWhoseDoor();
        inWhom();
        chances();
        done();
        fordAtNought();
        crossedAnew();
        Due.end();
    }

    private static int draw(int n) {
        lot = lot * 48271 % 2147483647;
        return (int) (lot % n);
    }

    // ---- rivers that came to be by deeds

    private static DareFord came() {
        int people = 1 + draw(6);
        StringBuilder text = new StringBuilder("f").append(draw(10));
        for (int i = 0; i < people; i++) {
            person(text, draw(6), draw(10), draw(21));
        }
        DareFord x = Due.river(text.toString());
        if (draw(2) == 0) {
            x.night();
            x.night();
        }
        for (int i = 0; i < people; i++) {
            int by = 1 + draw(9);
            if (x.raise(i, by) == STATE) {
                x.shame(i, by);
            }
            x.door(i, draw(10));
        }
        Due.write(x, 3, FAULTY[draw(FAULTY.length)]);
        return x;
    }

    private static void person(StringBuilder text, int kind, int place, int daring) {
        text.append(LETTERS.charAt(kind)).append(place).append(daring / 10).append(daring % 10);
    }

    private static int asked(DareFord x, int i, int what) {
        x.one(i, what);
        return x.asked();
    }

    /** NIGHTS of x were none or two: the next one's number is even by both. */
    private static DareFord likeNow(DareFord x) {
        StringBuilder text = new StringBuilder("f").append(x.count(3));
        for (int i = 0; i < x.count(0); i++) {
            person(text, asked(x, i, 0), asked(x, i, 1), asked(x, i, 2));
        }
        return Due.river(text.toString());
    }

    private static void rows(DareFord x, int who, int n) {
        x.row(0, n);
        for (int k = 0; k < n; k++) {
            x.lay(0, k, who);
        }
    }

    private static void alike(String name, int most, Call call) {
        for (int run = 0; run < RUNS; run++) {
            DareFord x = came();
            DareFord y = likeNow(x);
            int people = x.count(0);
            int n = draw(most + 1);
            int nights = 1 + draw(3);
            int who = Math.max(0, y.count(4) == 0 ? draw(people) : Integer.numberOfTrailingZeros(y.count(4)));
            rows(x, who, nights);
            rows(y, who, nights);
            for (int i = 0; i <= people; i++) {
                String told = name + " of " + i + " with " + n + ", run " + run;
                same(x, y);
                x.fault(3);
                Due.due("river(3), run " + run, x.river(3), STATE);
                Due.due(told, call.make(x, i, n), call.make(y, i, n));
                Due.due(told + ": asked()", x.asked(), y.asked());
                Due.due(told + ": upper()", x.upper(), y.upper());
                Due.due(told + ": lower()", x.lower(), y.lower());
                Due.due(told + ": finding()", x.finding(), y.finding());
            }
            for (int i = 0; i < people; i++) {
                for (int what = 0; what < 4; what++) {
                    Due.due(name + ", run " + run + ": then one(" + i + ", " + what + ")", asked(x, i, what), asked(y, i, what));
                }
            }
            Due.due(name + ", run " + run + ": then count(3)", x.count(3), y.count(3));
        }
    }

    /** What was told last is the same by both. */
    private static void same(DareFord x, DareFord y) {
        x.one(0, 2);
        y.one(0, 2);
        x.odds(0, 12);
        y.odds(0, 12);
    }

    // ---- by group

    private static void told() {
        for (int what = 0; what <= 3; what++) {
            int tell = what;
            alike("one(i, " + what + ")", 0, (x, i, n) -> x.one(i, tell));
        }
        alike("one(i, 5)", 0, (x, i, n) -> x.one(i, 5));
        for (int kind = 1; kind <= 5; kind++) {
            int of = kind;
            alike("mark(i, " + kind + ")", 0, (x, i, n) -> x.mark(i, of));
        }
        int[] counts = {0, 3, 4, 5, 7, 8};
        for (int what : counts) {
            alike("count(" + what + ")", 0, (x, i, n) -> x.count(what));
        }
    }

    private static void comes() {
        alike("dares(i, n, n, 2)", 20, (x, i, n) -> x.dares(i, n, n, 2));
        alike("where(n)", 40, (x, i, n) -> x.where(n));
        alike("crosses(i, n)", 40, (x, i, n) -> x.crosses(i, n));
        alike("first(i)", 0, (x, i, n) -> x.first(i));
    }

    private static void raisedAndShamed() {
        alike("lift(i, 1 + n)", 4, (x, i, n) -> x.lift(i, 1 + n));
        alike("cheap(i, 1)", 0, (x, i, n) -> x.cheap(i, 1));
        alike("cheap(i, 1), its row", 5, (x, i, n) -> {
            x.cheap(i, 1);
            return x.at(1, n);
        });
    }

    private static void byWhoseDoor() {
        alike("darings(i, 0)", 0, (x, i, n) -> x.darings(i, 0));
        alike("kinds(i, 0)", 0, (x, i, n) -> x.kinds(i, 0));
        alike("look(i, 0)", 0, (x, i, n) -> x.look(i, 0));
    }

    private static void inWhom() {
        alike("sets(n)", 40, (x, i, n) -> x.sets(n));
        alike("sure(n)", 40, (x, i, n) -> x.sure(n));
        alike("sure(DARING of one)", 0, (x, i, n) -> x.sure(asked(x, i, 2)));
        alike("duel(i, n, 1)", 5, (x, i, n) -> x.duel(i, n, 1));
    }

    private static void chances() {
        alike("odds(i, n)", 12, (x, i, n) -> x.odds(i, n));
        alike("mid(i, n)", 12, (x, i, n) -> x.mid(i, n));
        alike("fair(n)", 12, (x, i, n) -> x.fair(n));
    }

    private static void done() {
        alike("night()", 0, (x, i, n) -> x.night());
        alike("raise(i, 1 + n)", 8, (x, i, n) -> x.raise(i, 1 + n));
        alike("shame(i, 1 + n)", 8, (x, i, n) -> x.shame(i, 1 + n));
        alike("door(i, n)", 9, (x, i, n) -> x.door(i, n));
        alike("lots(3, 1 + n)", 1000000, (x, i, n) -> x.lots(3, 1 + n + i));
        alike("keep(i), NIGHT, on(i)", 0, (x, i, n) -> {
            int deeds = x.keep(i % 3);
            x.night();
            return x.on(i % 3) - deeds;
        });
    }

    // ---- the FORD at PLACE 0 is there as any other

    private static void fordAtNought() {
        String text = "f0 p509 b002";
        Due.due("where(0), the FORD at 0", Due.river(text).where(0), 0);
        Due.due("where(1), the FORD at 0", Due.river(text).where(1), 5);
        Due.due("sets(9), the FORD at 0", Due.river(text).sets(9), 1);
        Due.due("sure(9), the FORD at 0", Due.river(text).sure(9), 1);
        Due.due("mid(5, 0), the FORD at 0", Due.river(text).mid(5, 0), 1);
        Due.due("fair(0), the FORD at 0", Due.river(text).fair(0), 5);
        Due.due("keep(0), the FORD at 0", Due.river(text).keep(0), 0);
        Due.due("night(), the FORD at 0", Due.river(text).night(), 0);
        Due.due("lots(1, 1) (48271: the second, RAISED by 5), the FORD at 0", Due.river(text).lots(1, 1), 0);
    }

    /** A RIVER anew: nobody CROSSED, whoever did or would have in the one before. */
    private static void crossedAnew() {
        String text = "f4 p120 d720 e320 b020 t920 q600";
        DareFord x = Due.river(text);
        x.where(40);
        Due.due("river(0) anew, behind where(40)", x.river(0), 6);
        noneCrossed(x);
        for (int n = 0; n < 12; n++) {
            x.night();
        }
        int crossed = x.count(6);
        Due.due("how often all CROSSED", crossed, 12);
        x.kinds(0, 0);
        x.first(5);
        Due.due("fault(0)", x.fault(0), NONE);
        Due.due("how often all CROSSED, behind fault(0)", x.count(6), crossed);
        x.crosses(5, 40);
        Due.due("river(0) anew, behind NIGHTS", x.river(0), 6);
        noneCrossed(x);
    }

    private static void noneCrossed(DareFord x) {
        for (int i = 0; i < 6; i++) {
            Due.due("how often " + i + " CROSSED, anew", asked(x, i, 4), 0);
        }
        Due.due("how often all CROSSED, anew", x.count(6), 0);
    }
}
