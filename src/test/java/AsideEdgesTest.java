import java.math.BigInteger;

/**
 * What comes, raising and shaming, by at whose door it was, in whom, by turns, chances (promises 21 to 35) at
 * the edges that the document names.
 */
public final class AsideEdgesTest {
    private static final int STATE = DareFord.STATE, FINDING = DareFord.FINDING, NONE = DareFord.NONE;
    private static final int ALL = (1 << 21) - 1;

    public static void main(String[] args) {
        whereOfNoNight();
        whereOfNobody();
        crossesFromNowOn();
        firstOfForty();
        liftOfNothing();
        liftToTwenty();
        liftInNights();
        cheapToTwenty();
        cheapToNought();
        cheapAnew();
        cheapWithoutARow();
        daringsAtBothEnds();
        daringsByOneAndTen();
        kindsAll();
        lookAtBothEnds();
        lookOfOne();
        setsOfNought();
        setsOfAll();
        setsOfOne();
        sureOfAllAndNone();
        duelOfNoTurns();
        duelToTwenty();
        oddsOfNoneAndTwelve();
        midAtBothEnds();
        fairIsTheFirst();
        lowestTerms();
        aloneAmongPeople();
        Due.end();
    }

    // ---- where, crosses, first

    private static void whereIs(DareFord x, int n, int place, int who) {
        Due.due("where(" + n + ")", x.where(n), place);
        Due.due("where(" + n + ") by asked()", x.asked(), who);
    }

    /** NONE: n is 0, also when one had it the NIGHT before. */
    private static void whereOfNoNight() {
        DareFord x = Due.river("f4 p109");
        whereIs(x, 0, 4, NONE);
        x.night();
        whereIs(x, 0, 1, NONE);
        whereIs(x, 1, 1, 0);
    }

    /** NONE: nobody; the FORD stays where it was then. */
    private static void whereOfNobody() {
        DareFord x = Due.river("f4 p103");
        whereIs(x, 1, 1, 0);
        whereIs(x, 2, 1, 0);
        whereIs(x, 3, 1, NONE);
        whereIs(x, 40, 1, NONE);
        DareFord quiet = Due.river("f4 q011");
        whereIs(quiet, 1, 4, NONE);
        whereIs(quiet, 2, 0, 0);
        whereIs(quiet, 40, 0, 0);
    }

    private static void crossesFromNowOn() {
        DareFord x = Due.river("f4 p109 q720");
        int[] wants = {0, 1, 2, 3, 4, 5, 5};
        for (int n = 0; n < wants.length; n++) {
            Due.due("crosses(0, " + n + ")", x.crosses(0, n), wants[n]);
        }
        Due.due("crosses(1, 40), one NIGHT of nobody between", x.crosses(1, 40), 34);
        for (int passed = 1; passed <= 5; passed++) {
            x.night();
            Due.due("crosses(0, 0) behind " + passed, x.crosses(0, 0), 0);
            Due.due("crosses(0, 40) behind " + passed, x.crosses(0, 40), 5 - passed);
        }
        DareFord always = Due.river("f4 q900");
        Due.due("crosses(0, 40) of each NIGHT", always.crosses(0, 40), 40);
        always.night();
        Due.due("crosses(0, 40) of each NIGHT, on", always.crosses(0, 40), 40);
        Due.due("crosses(0, 39)", always.crosses(0, 39), 39);
    }

    /** In how many NIGHTS, 1 .. 40; NONE: in none of these, also if in the 41st. */
    private static void firstOfForty() {
        DareFord x = Due.river("f0 b019 b020 b020 b020 b001 p400");
        int[] firsts = {4, 1, 2, 3, NONE, NONE};
        for (int i = 0; i < 6; i++) {
            Due.due("first(" + i + ")", x.first(i), firsts[i]);
        }
        for (int passed = 1; passed < 40; passed++) {
            Due.due("night(), not yet", x.night() < 4 ? 1 : 0, 1);
            Due.due("first(4) behind " + passed, x.first(4), 41 - passed);
        }
        Due.due("the 40th", x.night() < 4 ? 1 : 0, 1);
        Due.due("first(4), next", x.first(4), 1);
        Due.due("first(5) who never dares", x.first(5), NONE);
        Due.due("asked() behind first", x.asked(), 0);
    }

    // ---- lift

    private static void liftOfNothing() {
        DareFord x = Due.river("f4 p520 q715");
        Due.due("lift(0, 1) who has it", x.lift(0, 1), 0);
        Due.due("lift(0, 20)", x.lift(0, 20), NONE);
        Due.due("lift(1, 1) who never dares by more", x.lift(1, 1), NONE);
        Due.due("asked() behind lift", x.asked(), 0);
    }

    /** 0 .. 20; 20 at most in all. */
    private static void liftToTwenty() {
        Due.due("lift by 20", Due.river("f4 p400 b520").lift(0, 1), 20);
        Due.due("lift by 20, the first of like ones", Due.river("f4 p500 b520").lift(0, 1), 20);
        Due.due("lift by 21", Due.river("f4 b520 p500").lift(1, 1), NONE);
        Due.due("lift by 19", Due.river("f4 p401 b520").lift(0, 1), 19);
        Due.due("lift by 1 from 19", Due.river("f4 p419 b520").lift(0, 1), 1);
        Due.due("lift by 0 from 20", Due.river("f4 p420 b520").lift(0, 1), 0);
        Due.due("lift from 20 above", Due.river("f4 p620 b520").lift(0, 1), NONE);
        Due.due("lift of a drunk", Due.river("f4 d600 b520").lift(0, 1), 11);
        Due.due("lift of a FEARFUL one to 5", Due.river("f4 e400 p504").lift(0, 1), 5);
        Due.due("lift of a FEARFUL one from 4", Due.river("f4 e404 p504").lift(0, 1), 1);
        Due.due("lift of one who BETS", Due.river("f9 t000 p718").lift(0, 1), 16);
        Due.due("lift of none who DARES", Due.river("f4 p400").lift(0, 1), 1);
    }

    /** The n-th NIGHT from now on: also such as come behind NIGHTS that passed. */
    private static void liftInNights() {
        DareFord x = Due.river("f4 p400 b310");
        Due.due("lift(0, 1)", x.lift(0, 1), 10);
        Due.due("lift(0, 2)", x.lift(0, 2), 12);
        Due.due("lift(0, 3)", x.lift(0, 3), 9);
        x.night();
        Due.due("lift(0, 1), a NIGHT on", x.lift(0, 1), 9);
        DareFord alone = Due.river("f4 b400");
        Due.due("lift(0, 10)", alone.lift(0, 10), 19);
        Due.due("lift(0, 11)", alone.lift(0, 11), NONE);
        DareFord two = Due.river("f4 b420 b400");
        Due.due("lift(1, 20)", two.lift(1, 20), 19);
        Due.due("lift(1, 19)", two.lift(1, 19), 17);
        Due.due("lift(0, 20)", two.lift(0, 20), NONE);
    }

    // ---- cheap

    private static void cheapIs(String text, int i, int want, int... row) {
        DareFord x = Due.river(text);
        String call = "'" + text + "': cheap(" + i + ", 5)";
        Due.due(call, x.cheap(i, 5), want);
        if (want != NONE) {
            Due.rowIs(x, call, 5, row);
        }
        Due.due(call + ": count(9)", x.count(9), want == NONE ? 0 : 1);
    }

    private static void cheapToTwenty() {
        cheapIs("f4 p400 b320 b520 b320 b520 b320", 0, 20, 20, 0, 0, 0, 0, 0);
        cheapIs("f4 p900 b320 b520 b320 b520 b320", 0, 25, 20, 1, 1, 1, 1, 1);
        cheapIs("f4 p420 b320 b520", 0, 0, 0, 0, 0);
        cheapIs("f4 p620 b320 b520", 0, 2, 0, 1, 1);
        cheapIs("f4 b520 p500", 1, 21, 20, 1);
        cheapIs("f4 p500 b520", 0, 20, 1, 19);
        cheapIs("f4 p900 q104 q004 q304", 0, 11, 11, 0, 0, 0);
        cheapIs("f4 p919 d320 d520", 0, 22, 0, 11, 11);
    }

    /** DARINGS 0 .. 20: others are SHAMED to 0, not below. */
    private static void cheapToNought() {
        cheapIs("f4 q909 p120", 0, 20, 0, 20);
        cheapIs("f4 q409 p120", 0, 19, 0, 19);
        cheapIs("f4 q910 p120", 0, NONE);
        cheapIs("f4 q920 p100", 0, NONE);
        cheapIs("f4 q408 t120", 0, NONE);
        cheapIs("f4 q407 t120", 0, 20, 0, 20);
        cheapIs("f4 q907 t120", 0, NONE);
        cheapIs("f4 q404 q304", 0, 0, 0, 0);
        cheapIs("f4 q304 q404", 0, NONE);
        cheapIs("f4 q405 e320", 0, 15, 0, 15);
        cheapIs("f4 q906 e120", 0, 16, 0, 16);
        cheapIs("f4 q905 q404", 0, NONE);
    }

    /** By how much each comes to a ROW, anew: as many ints as PEOPLE. */
    private static void cheapAnew() {
        for (int size : new int[] {0, 1, 2, 3, 40}) {
            DareFord x = Due.river("f4 p109 p512");
            x.row(0, size);
            for (int i = 0; i < size; i++) {
                x.lay(0, i, -7);
            }
            Due.due("cheap(0, 0) to a row of " + size, x.cheap(0, 0), 4);
            Due.rowIs(x, "a row of " + size + ", anew", 0, 0, 4);
            Due.due("count(9)", x.count(9), 1);
            Due.due("asked() behind its place 1", x.asked(), 4);
        }
    }

    /** NONE: the ROW stays, as it was or missing. */
    private static void cheapWithoutARow() {
        DareFord x = Due.river("f4 q910 p100");
        Due.write(x, 0, 5, 6, 7);
        Due.due("cheap(0, 0) that can't be", x.cheap(0, 0), NONE);
        Due.rowIs(x, "the row stays", 0, 5, 6, 7);
        Due.due("cheap(0, 1) that can't be", x.cheap(0, 1), NONE);
        Due.due("at(1, 0)", x.at(1, 0), FINDING);
        Due.due("finding()", x.finding(), 1);
        Due.due("count(9)", x.count(9), 1);
    }

    // ---- darings, kinds, look

    private static void daringsIs(String text, int i, int want, int... row) {
        DareFord x = Due.river(text);
        Due.write(x, 3, row);
        Due.due("'" + text + "': darings(" + i + ", 3)", x.darings(i, 3), want);
    }

    private static void daringsAtBothEnds() {
        daringsIs("f4 p400 b120", 0, 1 << 20, 0);
        daringsIs("f4 p400 b120", 0, ALL & ~(1 << 20), 1);
        daringsIs("f4 b100 p410", 1, ALL & ~1, 1);
        daringsIs("f4 b901 p405", 1, 1, 0);
        daringsIs("f4 b120 p900", 1, ALL, 0);
        daringsIs("f4 b120 p900", 1, 0, 1);
        daringsIs("f4 q420", 0, 0b1111111111, 0);
        daringsIs("f4 e400", 0, ALL & ~0b11111, 0);
        daringsIs("f4 p900 q900", 1, 0b1111111111, 1);
    }

    private static void daringsByOneAndTen() {
        int[] ten = {0, 0, 0, 0, 0, 0, 0, 0, 0, 0};
        daringsIs("f4 b100", 0, 1 << 19 | 1 << 20, ten);
        daringsIs("f4 b100", 0, 0b111 << 18 | 1 << 17, 0, 0, 0, 0, 0, 0, 0, 0, 0);
        daringsIs("f4 q100", 0, 0b1111111111, ten);
        daringsIs("f4 q100", 0, 0b1111111111, 0);
    }

    private static void kindsIs(String text, int i, int want, int... row) {
        DareFord x = Due.river(text);
        Due.write(x, 3, row);
        Due.due("'" + text + "': kinds(" + i + ", 3)", x.kinds(i, 3), want);
    }

    private static void kindsAll() {
        kindsIs("f4 p100 b120", 0, 63, 1);
        kindsIs("f4 q100 b120", 0, 0, 0);
        kindsIs("f4 p105 b100", 0, 63, 0);
        kindsIs("f4 p104 b100", 0, 63 & ~4, 0);
        kindsIs("f4 p110 b100", 0, 63 & ~32, 0);
        kindsIs("f4 p100 b901", 0, 1 << 4 | 1 << 5, 0);
        kindsIs("f4 p100 b901", 0, 1 | 2 | 4 | 8, 1);
    }

    private static void lookIs(String text, int i, int night, int part, int... row) {
        DareFord x = Due.river(text);
        Due.write(x, 3, row);
        x.at(3, 0);
        int asked = x.asked();
        Due.due("'" + text + "': look(" + i + ", 3)", x.look(i, 3), night);
        Due.due("'" + text + "': look(" + i + ", 3) by asked()", x.asked(), night == NONE ? asked : part);
    }

    private static void lookAtBothEnds() {
        lookIs("f9 t300 b219", 0, 20, 2, 0);
        lookIs("f4 b120 p900", 1, 11, 11, 0);
        lookIs("f4 p900 q900", 0, 1, 10, 1);
        lookIs("f4 q100", 0, 1, 10, 0, 0, 0);
        lookIs("f4 q100 p020", 0, NONE, 0, 0);
    }

    private static void lookOfOne() {
        lookIs("f4 p400 b120", 0, 1, 1, 0);
        lookIs("f4 b901 p405", 1, 1, 1, 0);
    }

    // ---- sets, sure

    private static void setsIs(String text, int v, int many, int first) {
        DareFord x = Due.river(text);
        Due.told(x, "'" + text + "': sets(" + v + ")", x.sets(v), first);
        Due.ratio(x, "'" + text + "': sets(" + v + ")", many, 1);
    }

    /** That of none, too: the least as bits is 0. */
    private static void setsOfNought() {
        setsIs("f4 p100 d200 e300 b400 t500 q600", 0, 64, 0);
        setsIs("f4 p101 d202 e303 b404 t505 q606", 0, 1, 0);
        setsIs("f4 p101 d200 e303", 0, 2, 0);
        setsIs("f4 p100 d205", 5, 2, 2);
        setsIs("f4 p105 d200", 5, 2, 1);
        setsIs("f4 p100", 1, 0, NONE);
    }

    private static void setsOfAll() {
        setsIs("f4 p120 d220 e320 b420 t520 q620", 120, 1, 63);
        setsIs("f4 p120 d220 e320 b420 t520 q620", 119, 0, NONE);
        setsIs("f4 p120 d220 e320 b420 t520 q620", 100, 6, 31);
        setsIs("f4 p120 d220 e320 b420 t520 q620", 20, 6, 1);
        setsIs("f4 p120 d220 e320 b420 t520 q619", 120, 0, NONE);
        setsIs("f4 p120 d220 e320 b420 t520 q619", 119, 1, 63);
    }

    private static void setsOfOne() {
        setsIs("f4 q600", 0, 2, 0);
        setsIs("f4 q620", 20, 1, 1);
        setsIs("f4 q620", 0, 1, 0);
        setsIs("f4 q620", 19, 0, NONE);
        setsIs("f4 q620", 21, 0, NONE);
    }

    private static void sureIs(String text, int v, int in, int out) {
        DareFord x = Due.river(text);
        Due.due("'" + text + "': sure(" + v + ")", x.sure(v), in);
        Due.due("'" + text + "': sure(" + v + ") by asked()", x.asked(), out);
        Due.ratio(x, "sure tells no number", 0, 1);
    }

    private static void sureOfAllAndNone() {
        sureIs("f4 p120 d220 e320 b420 t520 q620", 120, 63, 0);
        sureIs("f4 p120 d220 e320 b420 t520 q620", 0, 0, 63);
        sureIs("f4 p120 d220 e320 b420 t520 q620", 60, 0, 0);
        sureIs("f4 p100 d220 e300", 20, 2, 0);
        sureIs("f4 p100 d220 e300", 0, 0, 2);
        sureIs("f4 p103 d205 e308", 8, 0, 0);
        sureIs("f4 p103 d205 e309", 8, 3, 4);
        sureIs("f4 p100", 0, 0, 0);
        DareFord x = Due.river("f4 p100");
        Due.finds(x, "sure(1) of no set", 4, () -> x.sure(1));
        DareFord y = new DareFord();
        Due.refused(y, "sure(0) without PEOPLE", STATE, () -> y.sure(0));
    }

    // ---- duel

    private static void duelIs(String text, int i, int j, int n, int want) {
        DareFord x = Due.river(text);
        String call = "'" + text + "': duel(" + i + ", " + j + ", " + n + ")";
        long digest = x.digest();
        Due.told(x, call, x.duel(i, j, n), want);
        Due.due(call + ": digest()", x.digest(), digest);
    }

    /** n is 0: it is NIGHT at once; 0: a third one has it, or nobody. */
    private static void duelOfNoTurns() {
        duelIs("f4 p409 p308", 0, 1, 0, 1);
        duelIs("f4 p409 p308", 1, 0, 0, -1);
        duelIs("f4 p409 p308 p510", 0, 1, 0, 0);
        duelIs("f4 p400 p300", 0, 1, 0, 0);
        duelIs("f4 p400 p300", 0, 1, 1, 1);
        duelIs("f4 p400 p300", 1, 0, 1, -1);
    }

    /** By 0, 1 or 2, n times each, 20 at most. */
    private static void duelToTwenty() {
        duelIs("f4 p400 b506 b506", 0, 1, 3, -1);
        duelIs("f4 p400 p300 b506", 0, 1, 3, 1);
        duelIs("f4 p500 p300 b407", 0, 1, 3, 0);
        duelIs("f4 p400 p900 b506", 0, 1, 3, 1);
        duelIs("f4 p400 p900 b507", 0, 1, 3, 0);
        duelIs("f4 p400 p900 b505", 0, 1, 2, 0);
        duelIs("f4 p400 p900 b504", 0, 1, 2, 1);
        duelIs("f4 p400 p900 b503", 0, 1, 1, 0);
        duelIs("f4 p400 p900 b502", 0, 1, 1, 1);
        duelIs("f4 p320 p414", 0, 1, 3, -1);
        duelIs("f4 p320 p413", 0, 1, 3, 1);
        duelIs("f4 p320 p514", 0, 1, 3, 1);
        duelIs("f4 p519 p320", 0, 1, 3, 1);
        duelIs("f4 p320 t920", 0, 1, 3, -1);
        duelIs("f4 d319 t920", 0, 1, 3, 1);
        duelIs("f4 p620 p519", 0, 1, 1, -1);
    }

    // ---- chances

    private static void oddsIs(String text, int i, int p, long upper, long lower) {
        DareFord x = Due.river(text);
        Due.due("'" + text + "': odds(" + i + ", " + p + ")", x.odds(i, p), 1);
        Due.ratio(x, "'" + text + "': odds(" + i + ", " + p + ")", upper, lower);
    }

    /** By 0 of 12 nobody fails, by 12 all do: 0 by 1. */
    private static void oddsOfNoneAndTwelve() {
        String text = "f4 p109 d705 e312 b008 t914 q602";
        for (int i = 0; i < 6; i++) {
            oddsIs(text, i, 0, i == 4 ? 1 : 0, 1);
            oddsIs(text, i, 12, 0, 1);
        }
        oddsIs("f4 q900", 0, 12, 0, 1);
        oddsIs("f4 q900", 0, 0, 1, 1);
        oddsIs("f4 q900", 0, 1, 11, 12);
        oddsIs("f4 q900", 0, 11, 1, 12);
        oddsIs("f4 e104", 0, 1, 0, 1);
        oddsIs("f4 p109 p108 p107 p106 p105 p104", 5, 11, 161051, 2985984);
        oddsIs("f4 p109 p108 p107 p106 p105 p104", 0, 11, 1, 12);
    }

    private static void midIs(String text, int place, int p, long upper, long lower) {
        DareFord x = Due.river(text);
        Due.due("'" + text + "': mid(" + place + ", " + p + ")", x.mid(place, p), 1);
        Due.ratio(x, "'" + text + "': mid(" + place + ", " + p + ")", upper, lower);
    }

    /** If all fail it stays; from PLACE 0 to PLACE 9 it is 9. */
    private static void midAtBothEnds() {
        midIs("f0 p905", 9, 12, 9, 1);
        midIs("f0 p905", 0, 12, 0, 1);
        midIs("f0 p905", 9, 0, 0, 1);
        midIs("f0 p905", 0, 0, 9, 1);
        midIs("f9 p005", 9, 0, 9, 1);
        midIs("f9 p005", 0, 1, 3, 4);
        midIs("f9 p005", 9, 1, 33, 4);
        midIs("f9 p000", 0, 0, 9, 1);
        midIs("f0 p920 p920 p920 p920 p920 p920", 0, 11, 1214423, 331776);
    }

    private static void fairIs(String text, int p, int place, long upper, long lower) {
        DareFord x = Due.river(text);
        Due.due("'" + text + "': fair(" + p + ")", x.fair(p), place);
        Due.ratio(x, "'" + text + "': fair(" + p + ")", upper, lower);
    }

    /** The PLACE (0 .. 9; the first). */
    private static void fairIsTheFirst() {
        fairIs("f0 p905", 6, 0, 9, 2);
        fairIs("f9 p005", 6, 0, 9, 2);
        fairIs("f3 p605", 6, 3, 3, 2);
        fairIs("f6 p305", 6, 3, 3, 2);
        fairIs("f9 p005", 0, 0, 0, 1);
        fairIs("f0 p905", 0, 9, 0, 1);
        fairIs("f0 p905", 12, 0, 0, 1);
        fairIs("f9 p005", 12, 9, 0, 1);
        fairIs("f9 p005", 7, 9, 15, 4);
        fairIs("f9 p005", 5, 0, 15, 4);
        fairIs("f5 p500", 3, 5, 0, 1);
    }

    private static void lowestTerms() {
        for (int p = 0; p <= 12; p++) {
            long divisor = p == 12 ? 12 : BigInteger.valueOf(12).gcd(BigInteger.valueOf(12 - p)).longValue();
            oddsIs("f4 p409", 0, p, p == 12 ? 0 : (12 - p) / divisor, p == 12 ? 1 : 12 / divisor);
        }
    }

    /** One alone: it can be lifted, looked at, and given odds; nobody is there for a duel. */
    private static void aloneAmongPeople() {
        DareFord x = Due.river("f4 b904");
        Due.write(x, 0, 0);
        Due.due("count(4)", x.count(4), 1);
        Due.due("cheap(0, 1)", x.cheap(0, 1), 0);
        Due.rowIs(x, "cheap(0, 1)", 1, 0);
        Due.due("darings(0, 0)", x.darings(0, 0), ALL & ~1);
        Due.due("kinds(0, 0)", x.kinds(0, 0), 63 & ~4);
        Due.due("look(0, 0)", x.look(0, 0), 6);
        Due.due("look(0, 0) by asked()", x.asked(), 10);
        Due.due("duel(0, 0, 1)", x.duel(0, 0, 1), DareFord.BAD);
        Due.due("duel(0, 1, 1)", x.duel(0, 1, 1), DareFord.BAD);
    }
}
