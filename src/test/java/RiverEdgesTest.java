/**
 * Promises 10 and 11 at their edges: A RIVER with 0, 1, 6 and 7 PEOPLE, TEXTS of 0 and of 60 bytes, each kind
 * of FAULT at each place and at the TEXT's end, every byte where it is none such.
 */
public final class RiverEdgesTest {
    private static final int BAD = DareFord.BAD, STATE = DareFord.STATE, NONE = DareFord.NONE;
    private static final int NOTHING = 1;
    private static final String LETTERS = "pdebtq";
    private static final String SIX = "f1p102d203e304b405t506q607";

    public static void main(String[] args) {
        ofPeople();
        seventh();
        textOfNone();
        textOfSixty();
        textMissing();
        blanks();
        blanksWithin();
        endTooEarly();
        everyByteAsFord();
        everyByteAsFigure();
        everyByteAsLetter();
        everyPlace();
        everyDaring();
        aboveTwentyAheadOfOthers();
        firstOfFaults();
        tellsNothingElse();
        anewEachTime();
        withoutPeopleAtFirst();
        Due.end();
    }

    private static void faultIs(String text, int want) {
        DareFord x = new DareFord();
        Due.write(x, 0, text);
        Due.due("fault of '" + text + "'", x.fault(0), want);
        if (want != NONE) {
            Due.refused(x, "river of '" + text + "'", STATE, () -> x.river(0));
            Due.due("PEOPLE of '" + text + "'", x.count(0), 0);
        }
    }

    private static DareFord riverIs(String text, int people) {
        DareFord x = new DareFord();
        Due.write(x, 0, text);
        Due.due("fault of '" + text + "'", x.fault(0), NONE);
        Due.due("river of '" + text + "'", x.river(0), people);
        Due.due("PEOPLE of '" + text + "'", x.count(0), people);
        return x;
    }

    private static void is(DareFord x, int i, int kind, int place, int daring) {
        Due.told(x, "KIND of " + i, x.one(i, 0), kind);
        Due.told(x, "DOOR of " + i, x.one(i, 1), place);
        Due.told(x, "DARING of " + i, x.one(i, 2), daring);
    }

    // ---- how many people

    private static void ofPeople() {
        faultIs("f1", 2);
        for (int people = 1; people <= 6; people++) {
            DareFord x = riverIs(SIX.substring(0, 2 + 4 * people), people);
            Due.due("FORD", x.count(3), 1);
            for (int i = 0; i < people; i++) {
                is(x, i, i, i + 1, i + 2);
            }
            Due.refused(x, "one behind the last", BAD, () -> x.one(people(x), 0));
        }
    }

    private static int people(DareFord x) {
        return x.count(0);
    }

    /** A seventh one of PEOPLE: its place, whatever it would be; blanks behind six are none. */
    private static void seventh() {
        riverIs(SIX + "   ", 6);
        faultIs(SIX + "p109", 26);
        faultIs(SIX + "p", 26);
        faultIs(SIX + "p9", 26);
        faultIs(SIX + "p999", 26);
        faultIs(SIX + "x", 26);
        faultIs(SIX + "7", 26);
        faultIs(SIX + "    q109", 30);
        faultIs(SIX + "  p109 p109", 28);
        faultIs(SIX + " ".repeat(33) + "p", 59);
    }

    // ---- how long a text

    private static void textOfNone() {
        faultIs("", 0);
        faultIs(" ", 1);
        faultIs("f", 1);
    }

    private static void textOfSixty() {
        faultIs(" ".repeat(60), 60);
        faultIs(" ".repeat(59) + "f", 60);
        faultIs(" ".repeat(58) + "f9", 60);
        faultIs("f9" + " ".repeat(58), 60);
        faultIs(" ".repeat(55) + "f9p99", 60);
        faultIs(" ".repeat(55) + "f9p92", 60);
        faultIs(" ".repeat(54) + "f9p921", 58);
        is(riverIs(" ".repeat(54) + "f9p920", 1), 0, 0, 9, 20);
        is(riverIs("f0" + " ".repeat(54) + "q000", 1), 0, 5, 0, 0);
        is(riverIs("f0q000" + " ".repeat(54), 1), 0, 5, 0, 0);
        faultIs("f0q000" + " ".repeat(53) + "x", 59);
        riverIs(" ".repeat(34) + SIX, 6);
        riverIs(SIX + " ".repeat(34), 6);
        riverIs("f1 " + " ".repeat(33) + SIX.substring(2), 6);
        faultIs(" ".repeat(60).substring(26) + SIX.substring(0, 25) + " ", 59);
    }

    private static void textMissing() {
        DareFord x = new DareFord();
        for (int t = 0; t < 4; t++) {
            int text = t;
            Due.finds(x, "fault(" + t + "), missing", NOTHING, () -> x.fault(text));
            Due.finds(x, "river(" + t + "), missing", NOTHING, () -> x.river(text));
            Due.finds(x, "put(" + t + "), missing", NOTHING, () -> x.put(text, 0, 1));
        }
    }

    // ---- blanks

    private static void blanks() {
        DareFord x = riverIs("     f3      d720t803     ", 2);
        Due.due("FORD", x.count(3), 3);
        is(x, 0, 1, 7, 20);
        is(x, 1, 4, 8, 3);
        riverIs("f3d720t803", 2);
        riverIs("f3 d720t803", 2);
        riverIs("f3d720 t803", 2);
        riverIs(" f3d720t803", 2);
        riverIs("f3d720t803 ", 2);
    }

    /** None within items: a letter and all its figures. */
    private static void blanksWithin() {
        faultIs("f 3d720", 1);
        faultIs("  f 3d720", 3);
        faultIs("f3d 720", 3);
        faultIs("f3d7 20", 4);
        faultIs("f3d72 0", 5);
        faultIs("f3d720 t 803", 8);
        faultIs("f3d720 t8 03", 9);
        faultIs("f3d720 t80 3", 10);
        for (int other : new int[] {0, 9, 10, 13, 31, 33, 127, 160, 255}) {
            faultIs("f3" + (char) other + "d720", 2);
            faultIs((char) other + "f3d720", 0);
            faultIs("f3d720" + (char) other, 6);
        }
    }

    /** The TEXT's size, if its end comes too early: each part of a whole RIVER that is none yet. */
    private static void endTooEarly() {
        String text = "  f3  d720 t803";
        for (int size = 0; size <= text.length(); size++) {
            boolean isWhole = size == 10 || size == 11 || size == 15;
            faultIs(text.substring(0, size), isWhole ? NONE : size);
        }
    }

    // ---- every byte

    private static String with(String text, int place, int v) {
        return text.substring(0, place) + (char) (v & 255) + text.substring(place + 1);
    }

    private static void everyByteAsFord() {
        for (int v = -128; v <= 127; v++) {
            if (v != ' ') {
                faultIs(with("f3 d715", 0, v), v == 'f' ? NONE : 0);
            }
        }
        faultIs(" 3 d715", 1);
    }

    private static void everyByteAsFigure() {
        String text = "f3 d015 t803";
        int[] places = {1, 4, 6, 9, 11};
        for (int place : places) {
            for (int v = -128; v <= 127; v++) {
                faultIs(with(text, place, v), v >= '0' && v <= '9' ? NONE : place);
            }
        }
        for (int v = -128; v <= 127; v++) {
            boolean isDaring = v == '0' || v == '1';
            faultIs(with(text, 5, v), isDaring ? NONE : 5);
            faultIs(with(text, 10, v), isDaring ? NONE : 10);
        }
    }

    private static void everyByteAsLetter() {
        String text = "f3 d015 t803";
        for (int v = -128; v <= 127; v++) {
            if (v != ' ') {
                boolean isKind = v > 0 && LETTERS.indexOf(v) >= 0;
                faultIs(with(text, 3, v), isKind ? NONE : 3);
                faultIs(with(text, 8, v), isKind ? NONE : 8);
            }
        }
        faultIs("f3  015 t803", 4);
        faultIs("f3 d015  803", 9);
    }

    private static void everyPlace() {
        for (int place = 0; place <= 9; place++) {
            DareFord x = riverIs("f" + place + "e" + place + "06b" + place + "07", 2);
            Due.due("FORD", x.count(3), place);
            is(x, 0, 2, place, 6);
            is(x, 1, 3, place, 7);
        }
    }

    /** Two figures, 00 .. 20; two figures above 20: the place of the first of both. */
    private static void everyDaring() {
        for (int daring = 0; daring <= 99; daring++) {
            String two = (daring < 10 ? "0" : "") + daring;
            for (int kind = 0; kind < 6; kind++) {
                String text = "f4 p101 " + LETTERS.charAt(kind) + "9" + two;
                if (daring <= 20) {
                    is(riverIs(text, 2), 1, kind, 9, daring);
                } else {
                    faultIs(text, 10);
                }
            }
        }
    }

    private static void aboveTwentyAheadOfOthers() {
        faultIs("f4 p121x", 5);
        faultIs("f4 p121 x", 5);
        faultIs("f4 p1219", 5);
        faultIs("f4 p120x", 7);
        faultIs("f4 p1209", 7);
        faultIs("f4 p121 p199", 5);
    }

    /** The first place alone is told, whatever follows. */
    private static void firstOfFaults() {
        faultIs("x4 p1 z", 0);
        faultIs("fx p1 z", 1);
        faultIs("f4 x109 f", 3);
        faultIs("f4 px99 f", 4);
        faultIs("f4 p1x9 f", 5);
        faultIs("f4 p10x f", 6);
        faultIs("f4 p100 f1", 8);
        faultIs("p100 f4", 0);
        faultIs("ff4 p100", 1);
        faultIs("f44 p100", 2);
    }

    // ---- what river leaves and takes

    private static void tellsNothingElse() {
        DareFord x = Due.river("f4 p109 d705");
        x.odds(0, 1);
        x.one(1, 1);
        long digest = x.digest();
        for (int time = 0; time < 3; time++) {
            Due.due("fault(0)", x.fault(0), NONE);
            Due.due("digest() behind fault", x.digest(), digest);
        }
        Due.due("river(0) anew", x.river(0), 2);
        Due.due("asked() behind river", x.asked(), 7);
        Due.ratio(x, "behind river", 11, 144);
        Due.due("digest() of the same anew", x.digest(), digest);
        x.put(0, 0, 'x');
        Due.told(x, "the RIVER is no TEXT", x.one(0, 2), 9);
    }

    /** Anew: NIGHT 0, nobody CROSSED, no DEEDS; also by the same TEXT, and with fewer PEOPLE. */
    private static void anewEachTime() {
        DareFord x = Due.river(SIX);
        x.night();
        x.night();
        x.raise(0, 3);
        Due.write(x, 2, "f8 e520 q611");
        int[][] wants = {{6, 0, 0, 1, 16, 27, 0, 2, 2, 0, 2, 0}, {2, 0, 0, 8, 1, 31, 0, 2, 0, 0, 2, 0}};
        for (int t = 0; t <= 2; t += 2) {
            x.river(t);
            for (int what = 0; what < 12; what++) {
                Due.due("river(" + t + "): count(" + what + ")", x.count(what), wants[t / 2][what]);
            }
            for (int i = 0; i < x.count(0); i++) {
                Due.told(x, "how often " + i + " CROSSED", x.one(i, 4), 0);
            }
            Due.due("undo(0) of none", x.undo(0), 0);
            x.night();
            x.door(0, 9);
        }
        Due.refused(x, "one(2, 0) of two", BAD, () -> x.one(2, 0));
        Due.due("undo(0)", x.undo(0), 2);
        Due.told(x, "DOOR as the TEXT told", x.one(0, 1), 5);
        Due.due("FORD as the TEXT told", x.count(3), 8);
    }

    private static void withoutPeopleAtFirst() {
        DareFord x = new DareFord();
        for (int what = 0; what < 12; what++) {
            Due.due("count(" + what + ") at first", x.count(what), 0);
        }
        Due.write(x, 0, "f4");
        Due.refused(x, "river without PEOPLE", STATE, () -> x.river(0));
        Due.refused(x, "night() behind it", STATE, x::night);
        Due.due("FORD behind it", x.count(3), 0);
    }
}
