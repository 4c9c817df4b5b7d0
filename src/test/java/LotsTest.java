import java.math.BigInteger;
import java.util.Arrays;

/** Promise 36 and LOTS: each DEED that a number can be, at the edges, and how one number comes from another. */
public final class LotsTest {
    private static final long FACTOR = 48271, MODULUS = 2147483647;
    private static final int FULL = DareFord.FULL, NONE = DareFord.NONE;
    private static final String LETTERS = "pdebtq";

    public static void main(String[] args) {
        firstNumber();
        nextNumber();
        raised();
        shamed();
        doors();
        nights();
        whoByPeople();
        eachIsADeed();
        untilFull();
        fordThen();
        Due.end();
    }

    /** The seed whose first number this is. */
    private static int seedOf(long lot) {
        BigInteger modulus = BigInteger.valueOf(MODULUS);
        return BigInteger.valueOf(FACTOR).modInverse(modulus).multiply(BigInteger.valueOf(lot)).mod(modulus).intValue();
    }

    /** A number of a DEED: who it is by how many there are, by what, and what more by 64, cut, modulo a number. */
    private static long lotOf(int people, int who, int what, int more, int modulus) {
        for (long lot = 2147483000L; lot > 0; lot--) {
            if (lot % people == who && lot / 8 % 8 == what && lot / 64 % modulus == more) {
                return lot;
            }
        }
        return 0;
    }

    private static DareFord done(String text, long lot) {
        DareFord x = Due.river(text);
        Due.due("lots(1) of " + lot + " BAD, FULL", x.lots(1, seedOf(lot)) < 0 ? 1 : 0, 0);
        Due.due("lots(1) of " + lot + ": DEEDS", x.count(2), 1);
        return x;
    }

    private static int daring(DareFord x, int i) {
        x.one(i, 2);
        return x.asked();
    }

    /** The first from a seed: by 48271 times it, at the seeds' edges too. */
    private static void firstNumber() {
        int[] seeds = {1, 2, 44488, 44489, 2147483645, 2147483646, seedOf(1), seedOf(2147483646)};
        long[] lots = {48271, 96542, 2147480248, 44872, 2147387105, 2147435376, 1, 2147483646};
        String text = "f4 p105 d205 e305 b405 t505 q605 ";
        for (int s = 0; s < seeds.length; s++) {
            DareFord x = Due.river(text);
            DareFord y = Due.river(text);
            int ford = performed(y, lots[s]);
            Due.due("lots(1, " + seeds[s] + ")", x.lots(1, seeds[s]), ford);
            Due.due("digest() of seed " + seeds[s], x.digest(), y.digest());
        }
    }

    /** What a number does, by calls of their own; only such as change something come here. */
    private static int performed(DareFord x, long lot) {
        int who = (int) (lot % x.count(0));
        int what = (int) (lot / 8 % 8);
        int more = (int) (lot / 64 % 5) + 1;
        int done = what < 2 ? x.raise(who, more) : what == 2 ? x.shame(who, more)
            : what == 3 ? x.door(who, (int) (lot / 64 % 10)) : x.night();
        Due.due("what " + lot + " does, not refused", done == NONE || done >= 0 ? 1 : 0, 1);
        return x.count(3);
    }

    /** A number comes from the one ahead: the second by the first, not by the seed. */
    private static void nextNumber() {
        DareFord x = Due.river("f4 b110 b210 b310");
        long lot = 1;
        for (int n = 1; n <= 20; n++) {
            lot = lot * FACTOR % MODULUS;
            DareFord one = Due.river("f4 b110 b210 b310");
            DareFord some = Due.river("f4 b110 b210 b310");
            one.lots(n, 1);
            some.lots(n - 1 > 0 ? n - 1 : 1, 1);
            if (n > 1) {
                some.lots(1, seedOf(lot));
                Due.due("digest() of lots(" + n + ", 1)", one.digest(), some.digest());
            }
        }
        Due.due("lots(20, 1), at once", x.lots(20, 1) < 0 ? 1 : 0, 0);
        Due.due("DEEDS", x.count(2), 20);
    }

    /** 0, 1 it is RAISED by 1 .. 5, 20 at most. */
    private static void raised() {
        int[] darings = {0, 5, 14, 15, 16, 19, 20};
        for (int daring : darings) {
            String two = (daring < 10 ? "0" : "") + daring;
            for (int more = 0; more < 5; more++) {
                for (int what = 0; what < 2; what++) {
                    long lot = lotOf(2, 1, what, more, 5);
                    DareFord x = done("f4 p107 b2" + two, lot);
                    Due.due("RAISED by lots from " + daring, daring(x, 1), Math.min(20, daring + more + 1));
                    Due.due("the other one", daring(x, 0), 7);
                    Due.due("the NIGHT", x.count(1), 0);
                }
            }
        }
    }

    /** 2 SHAMED by 1 .. 5, 0 at least. */
    private static void shamed() {
        int[] darings = {0, 1, 4, 5, 6, 20};
        for (int daring : darings) {
            String two = (daring < 10 ? "0" : "") + daring;
            for (int more = 0; more < 5; more++) {
                long lot = lotOf(2, 0, 2, more, 5);
                DareFord x = done("f4 e1" + two + " p207", lot);
                Due.due("SHAMED by lots from " + daring, daring(x, 0), Math.max(0, daring - more - 1));
                Due.due("the other one", daring(x, 1), 7);
                Due.due("the NIGHT", x.count(1), 0);
            }
        }
    }

    /** 3 its DOOR is at 0 .. 9, where it is, too. */
    private static void doors() {
        for (int place = 0; place <= 9; place++) {
            for (int was = 0; was <= 9; was++) {
                DareFord x = done("f4 p107 q" + was + "09 d305", lotOf(3, 1, 3, place, 10));
                Due.told(x, "DOOR by lots", x.one(1, 1), place);
                Due.told(x, "the first one's DOOR", x.one(0, 1), 1);
                Due.told(x, "the third one's DOOR", x.one(2, 1), 3);
                Due.due("the FORD stays", x.count(3), 4);
                Due.due("the NIGHT", x.count(1), 0);
            }
        }
    }

    /** Else (4 .. 7) a NIGHT, also one by which nobody has it. */
    private static void nights() {
        for (int what = 4; what < 8; what++) {
            DareFord x = done("f4 p107 q909", lotOf(2, 0, what, 0, 5));
            Due.due("the NIGHT", x.count(1), 1);
            Due.due("the FORD", x.count(3), 1);
            Due.due("how often all CROSSED", x.count(6), 1);
            DareFord nobody = done("f4 e104 q915", lotOf(2, 1, what, 3, 5));
            Due.due("the NIGHT of nobody", nobody.count(1), 1);
            Due.due("the FORD of nobody", nobody.count(3), 4);
            Due.due("how often all CROSSED of nobody", nobody.count(6), 0);
            Due.due("who FADES", daring(nobody, 0), 2);
        }
    }

    /** One of PEOPLE: it modulo how many there are, 1 to 6. */
    private static void whoByPeople() {
        StringBuilder text = new StringBuilder("f4");
        for (int people = 1; people <= 6; people++) {
            text.append(LETTERS.charAt(people - 1)).append(people).append("05");
            for (int who = 0; who < people; who++) {
                DareFord x = done(text.toString(), lotOf(people, who, 1, 4, 5));
                for (int i = 0; i < people; i++) {
                    Due.due("DARING of " + i + " of " + people, daring(x, i), i == who ? 10 : 5);
                }
            }
        }
    }

    /** Each a DEED, also where nothing becomes other by it: it is undone as one. */
    private static void eachIsADeed() {
        String text = "f4 b120 b200";
        long[] idle = {lotOf(2, 0, 0, 4, 5), lotOf(2, 0, 1, 0, 5), lotOf(2, 1, 2, 4, 5), lotOf(2, 0, 3, 1, 10)};
        DareFord x = Due.river(text);
        long[] digests = new long[5];
        digests[0] = x.digest();
        for (int d = 0; d < 4; d++) {
            x.lots(1, seedOf(idle[d]));
            Due.due("DEEDS, idle ones", x.count(2), d + 1);
            Due.due("DARING of the first", daring(x, 0), 20);
            Due.due("DARING of the second", daring(x, 1), 0);
            Due.told(x, "DOOR of the first", x.one(0, 1), 1);
            digests[d + 1] = x.digest();
        }
        x.keep(1);
        x.shame(0, 9);
        Due.due("on(1), idle ones", x.on(1), 4);
        Due.due("DARING gone on from", daring(x, 0), 20);
        for (int n = 3; n >= 0; n--) {
            Due.due("undo(" + n + ")", x.undo(n), 1);
            Due.due("DEEDS then", x.count(2), n);
        }
        Due.due("keep(1) of none", x.keep(1), 0);
        Due.due("undone in the same DARING", daring(x, 0), 20);
        Due.due("idle ones are not the same to digest()", Arrays.stream(digests).distinct().count(), 5);
    }

    /** FULL: with n more there would be more than 40 DEEDS, which changes nothing. */
    private static void untilFull() {
        for (int n = 1; n <= 20; n++) {
            int many = n;
            DareFord x = Due.river("f4 p120 d720");
            for (int d = 0; d < 41 - n; d++) {
                x.night();
            }
            Due.refused(x, "lots(" + n + ", 9) behind " + (41 - n), FULL, () -> x.lots(many, 9));
            x.undo(40 - n);
            Due.due("lots(" + n + ", 9) behind " + (40 - n), x.lots(n, 9) < 0 ? 1 : 0, 0);
            Due.due("DEEDS, full", x.count(2), 40);
            Due.refused(x, "lots(1, 9), full", FULL, () -> x.lots(1, 9));
        }
    }

    /** The PLACE of the FORD then: where it is if no NIGHT was among them, where the last one took it else. */
    private static void fordThen() {
        DareFord x = Due.river("f4 b120 b719");
        Due.due("lots(1) of a raising", x.lots(1, seedOf(lotOf(2, 1, 0, 4, 5))), 4);
        Due.due("lots(1) of a door", x.lots(1, seedOf(lotOf(2, 0, 3, 0, 10))), 4);
        Due.due("lots(1) of a NIGHT, of like ones the nearest", x.lots(1, seedOf(lotOf(2, 0, 7, 0, 5))), 7);
        Due.due("lots(1) of the next", x.lots(1, seedOf(lotOf(2, 0, 4, 0, 5))), 0);
        Due.due("asked() behind lots", x.asked(), 0);
        Due.ratio(x, "behind lots", 0, 1);
    }
}
