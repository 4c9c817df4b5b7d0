import java.util.Arrays;
import java.util.function.LongSupplier;

/** All promises: long runs of calls by lots, each answer held against that of FordModel, wild numbers among them. */
public final class ModelTest {
    private static final int RUNS = 4000, CALLS = 60;
    private static final int[] WILD = {Integer.MIN_VALUE, Integer.MAX_VALUE, -1000, 1000, -9, -2, 61, 41, 121, 2147483646};

    private static long lot = 20261119;

    private static int draw(int n) {
        lot = lot * 6364136223846793005L + 1442695040888963407L;
        return (int) ((lot >>> 33) % n);
    }

    /** Mostly a number of these, now and then one beside them, or a wild one. */
    private static int among(int from, int to) {
        int way = draw(60);
        if (way == 0) {
            return WILD[draw(WILD.length)];
        }
        if (way == 1) {
            return from - 1;
        }
        return way == 2 ? to + 1 : from + draw(to - from + 1);
    }

    private static String blanks() {
        return "     ".substring(0, draw(3) == 0 ? draw(3) : 0);
    }

    private static String riverText(int people) {
        StringBuilder text = new StringBuilder(blanks());
        text.append('f').append(draw(10)).append(blanks());
        int most = draw(4) == 0 ? 8 : 21;
        for (int i = 0; i < people; i++) {
            int daring = draw(most);
            text.append("pdebtq".charAt(draw(6))).append(draw(10)).append(daring / 10).append(daring % 10).append(blanks());
        }
        String letters = "f0123456789pdebtqx  ";
        for (int spoilt = draw(4) == 0 ? 1 + draw(2) : 0; spoilt > 0; spoilt--) {
            int at = draw(text.length());
            switch (draw(3)) {
                case 0: text.setCharAt(at, letters.charAt(draw(letters.length()))); break;
                case 1: text.insert(at, letters.charAt(draw(letters.length()))); break;
                default: text.setLength(Math.max(1, at)); break;
            }
        }
        return text.length() > 60 ? text.substring(0, 60) : text.toString();
    }

    private static long answer(LongSupplier made) {
        try {
            return made.getAsLong();
        } catch (FordModel.Refusal refusal) {
            return refusal.answer;
        }
    }

    private static void write(DareFord x, FordModel m, int t, String text) {
        x.text(t, text.length());
        m.text(t, text.length());
        for (int i = 0; i < text.length(); i++) {
            x.put(t, i, text.charAt(i));
            m.put(t, i, text.charAt(i));
        }
        alike(text, x.fault(t), m.fault(t));
        alike(text, x.river(t), answer(() -> m.river(t)));
    }

    private static void row(DareFord x, FordModel m, int r) {
        int n = 1 + draw(4);
        x.row(r, n);
        m.row(r, n);
        for (int i = 0; i < n; i++) {
            int n1 = i + 1;
            x.where(n1);
            int who = draw(3) == 0 || x.asked() < 0 ? draw(6) : x.asked();
            answer(() -> m.where(n1));
            x.lay(r, i, who);
            m.lay(r, i, who);
        }
    }

    private static void alike(String call, long got, long want) {
        Due.due(call, got, want);
    }

    private static void call(DareFord x, FordModel m) {
        int op = draw(43);
        int[] a = {among(0, 5), among(0, 5), among(0, 5), among(0, 5), among(0, 5)};
        if (op < 6) {
            rowCall(x, m, op, a);
        } else if (op < 12) {
            textCall(x, m, op, a);
        } else if (op < 19) {
            deedCall(x, m, op, a);
        } else if (op < 32) {
            askCall(x, m, op, a);
        } else {
            chanceCall(x, m, op, a);
        }
    }

    private static void both(int op, int[] a, long got, LongSupplier want) {
        alike("call " + op + " " + Arrays.toString(a), got, answer(want));
    }

    private static void rowCall(DareFord x, FordModel m, int op, int[] a) {
        a[1] = among(0, 6);
        a[4] = among(0, 4);
        int n = among(0, 12);
        switch (op) {
            case 0: both(op, a, x.row(a[0], n), () -> m.row(a[0], n)); break;
            case 1: both(op, a, x.lay(a[0], a[1], n), () -> m.lay(a[0], a[1], n)); break;
            case 2: both(op, a, x.at(a[0], a[1]), () -> m.at(a[0], a[1])); break;
            case 3: both(op, a, x.tear(a[0]), () -> m.tear(a[0])); break;
            case 4: both(op, a, x.copy(a[0], a[1], a[2], a[3], a[4]), () -> m.copy(a[0], a[1], a[2], a[3], a[4])); break;
            default: both(op, a, x.mean(a[0]), () -> m.mean(a[0])); break;
        }
    }

    private static void textCall(DareFord x, FordModel m, int op, int[] a) {
        a[0] = among(0, 3);
        a[1] = among(0, 6);
        int n = among(0, 60);
        int v = draw(2) == 0 ? among(-300, 300) : among(32, 125);
        switch (op) {
            case 6: both(op, a, x.text(a[0], n), () -> m.text(a[0], n)); break;
            case 7: both(op, a, x.put(a[0], a[1], v), () -> m.put(a[0], a[1], v)); break;
            case 8: both(op, a, x.fault(a[0]), () -> m.fault(a[0])); break;
            case 9: both(op, a, x.river(a[0]), () -> m.river(a[0])); break;
            case 10: both(op, a, x.one(a[1], a[2]), () -> m.one(a[1], a[2])); break;
            default: both(op, a, x.mark(a[1], a[2]), () -> m.mark(a[1], a[2])); break;
        }
    }

    private static void deedCall(DareFord x, FordModel m, int op, int[] a) {
        int k = among(0, 2);
        int place = among(0, 9);
        int n = among(1, 9);
        int back = among(Math.max(0, m.count(2) - 3), m.count(2));
        switch (op) {
            case 12: both(op, a, x.night(), () -> m.night()); break;
            case 13: both(op, a, x.raise(a[0], n), () -> m.raise(a[0], n)); break;
            case 14: both(op, a, x.shame(a[0], n), () -> m.shame(a[0], n)); break;
            case 15: both(op, a, x.door(a[0], place), () -> m.door(a[0], place)); break;
            case 16: both(op, a, x.undo(back), () -> m.undo(back)); break;
            case 17: both(op, a, x.keep(k), () -> m.keep(k)); break;
            default: both(op, a, x.on(k), () -> m.on(k)); break;
        }
    }

    private static void askCall(DareFord x, FordModel m, int op, int[] a) {
        int daring = among(0, 20);
        int number = among(0, 99);
        int far = among(0, 9);
        int n = among(0, 40);
        int ahead = among(1, 20);
        int sum = draw(2) == 0 ? among(0, 120) : among(0, 20);
        int turns = among(0, 3);
        switch (op) {
            case 19: both(op, a, x.dares(a[0], daring, number, far), () -> m.dares(a[0], daring, number, far)); break;
            case 20: both(op, a, x.where(n), () -> m.where(n)); break;
            case 21: both(op, a, x.crosses(a[0], n), () -> m.crosses(a[0], n)); break;
            case 22: both(op, a, x.first(a[0]), () -> m.first(a[0])); break;
            case 23: both(op, a, x.lift(a[0], ahead), () -> m.lift(a[0], ahead)); break;
            case 24: cheapCall(x, m, a); break;
            case 25: row(x, m, draw(6)); break;
            case 26: both(op, a, x.darings(a[0], a[1]), () -> m.darings(a[0], a[1])); break;
            case 27: both(op, a, x.kinds(a[0], a[1]), () -> m.kinds(a[0], a[1])); break;
            case 28: both(op, a, x.look(a[0], a[1]), () -> m.look(a[0], a[1])); break;
            case 29: both(op, a, x.sets(sum), () -> m.sets(sum)); break;
            case 30: both(op, a, x.sure(sum), () -> m.sure(sum)); break;
            default: both(op, a, x.duel(a[0], a[1], turns), () -> m.duel(a[0], a[1], turns)); break;
        }
    }

    /** The model tries all, which takes too long where many are far too daring. */
    private static void cheapCall(DareFord x, FordModel m, int[] a) {
        if (m.count(0) <= 3 || m.count(5) <= 12) {
            both(24, a, x.cheap(a[0], a[1]), () -> m.cheap(a[0], a[1]));
        }
    }

    private static void chanceCall(DareFord x, FordModel m, int op, int[] a) {
        int p = among(0, 12);
        int place = among(0, 9);
        int n = among(1, draw(3) == 0 ? 20 : 5);
        int seed = draw(2) == 0 ? among(1, 2147483646 / 2) : 2147483646 - draw(3);
        switch (op) {
            case 32: both(op, a, x.odds(a[0], p), () -> m.odds(a[0], p)); break;
            case 33: both(op, a, x.mid(place, p), () -> m.mid(place, p)); break;
            case 34: both(op, a, x.fair(p), () -> m.fair(p)); break;
            case 35: both(op, a, x.lots(n, seed), () -> m.lots(n, seed)); break;
            case 36: both(op, a, x.count(place + a[0]), () -> m.count(place + a[0])); break;
            case 37: both(op, a, x.findings(a[0]), () -> m.findings(a[0])); break;
            case 38: both(op, a, x.night(), () -> m.night()); break;
            default: break;
        }
        both(op, a, x.finding(), () -> m.finding());
    }

    private static void seen(DareFord x, FordModel m, int run) {
        alike("run " + run + ": asked()", x.asked(), m.asked());
        alike("run " + run + ": upper()", x.upper(), m.upper());
        alike("run " + run + ": lower()", x.lower(), m.lower());
        alike("run " + run + ": digest()", x.digest(), m.digest());
    }

    public static void main(String[] args) {
        for (int run = 0; run < RUNS; run++) {
            DareFord x = new DareFord();
            FordModel m = new FordModel();
            if (draw(20) > 0) {
                write(x, m, draw(4), riverText(1 + draw(draw(3) == 0 ? 3 : 7)));
                if (draw(3) == 0) {
                    write(x, m, draw(4), riverText(1 + draw(6)));
                }
            }
            for (int call = 0; call < CALLS; call++) {
                call(x, m);
                seen(x, m, run);
            }
        }
        Due.end();
    }
}
