import java.util.ArrayList;
import java.util.List;

/**
 * The document once more, written another way than the class: people of kinds by inheritance, deeds kept as
 * whole rivers, what is cheapest found by trying all. ModelTest holds the class against it.
 */
final class FordModel {
    static final class Refusal extends RuntimeException {
        private static final long serialVersionUID = 1L;
        final int answer;

        Refusal(int answer) {
            super(null, null, false, false);
            this.answer = answer;
        }
    }

    static class Person {
        int door, daring, crossed;

        int dares(int daring, int number, int far) {
            return daring;
        }

        int fade() {
            return 1;
        }
    }

    static class Drunk extends Person {
        int dares(int daring, int number, int far) {
            return daring * (2 - number % 2);
        }
    }

    static class Fearful extends Person {
        int dares(int daring, int number, int far) {
            return daring >= 5 ? daring : 0;
        }

        int fade() {
            return 2;
        }
    }

    static class Bred extends Person {
        int fade() {
            return 0;
        }
    }

    static class Bet extends Bred {
        int dares(int daring, int number, int far) {
            return daring + (far >= 3 ? 3 : far);
        }
    }

    static class Quiet extends Fearful {
        int dares(int daring, int number, int far) {
            return Math.max(10 - super.dares(daring, number, far), 0);
        }
    }

    static final Class<?>[] CLASSES = {Person.class, Drunk.class, Fearful.class, Bred.class, Bet.class, Quiet.class};

    static Person person(int kind, int door, int daring, int crossed) {
        Person p = switch (kind) {
            case 0 -> new Person();
            case 1 -> new Drunk();
            case 2 -> new Fearful();
            case 3 -> new Bred();
            case 4 -> new Bet();
            default -> new Quiet();
        };
        p.door = door;
        p.daring = daring;
        p.crossed = crossed;
        return p;
    }

    static int kindOf(Person p) {
        for (int kind = 0; kind < 6; kind++) {
            if (p.getClass() == CLASSES[kind]) {
                return kind;
            }
        }
        throw new IllegalStateException();
    }

    static final class River {
        int ford, number;
        final List<Person> people = new ArrayList<>();

        River copy() {
            River copy = new River();
            copy.ford = ford;
            copy.number = number;
            for (Person p : people) {
                copy.people.add(person(kindOf(p), p.door, p.daring, p.crossed));
            }
            return copy;
        }

        int far(int i) {
            return Math.abs(people.get(i).door - ford);
        }

        int dares(int i) {
            return people.get(i).dares(people.get(i).daring, number, far(i));
        }

        /** Ranks each one by a single number: daring first, then nearness, then who comes first. */
        int next(int failing) {
            int best = 0;
            int who = -9;
            for (int i = 0; i < people.size(); i++) {
                int dares = (failing & 1 << i) != 0 ? 0 : dares(i);
                int rank = dares * 1000 + (9 - far(i)) * 10 + (9 - i);
                if (dares > 0 && rank > best) {
                    best = rank;
                    who = i;
                }
            }
            return who;
        }

        int night() {
            int who = next(0);
            for (int i = 0; i < people.size(); i++) {
                Person p = people.get(i);
                p.daring = Math.max(p.daring - (i == who ? 2 : p.fade()), 0);
                if (i == who) {
                    p.crossed++;
                    ford = p.door;
                }
            }
            number++;
            return who;
        }
    }

    private final int[][] rows = new int[6][];
    private final byte[][] texts = new byte[4][];
    private List<River> history = new ArrayList<>(List.of(new River()));
    private final List<List<River>> kept = new ArrayList<>();
    private final int[] findings = new int[6];
    private int asked = 0, finding = 0;
    private long upper = 0, lower = 1;

    FordModel() {
        for (int k = 0; k < 3; k++) {
            kept.add(null);
        }
    }

    private River now() {
        return history.get(history.size() - 1);
    }

    private int deeds() {
        return history.size() - 1;
    }

    private static void need(boolean holds, int answer) {
        if (!holds) {
            throw new Refusal(answer);
        }
    }

    private void find(boolean holds, int f) {
        if (!holds) {
            finding = f;
            findings[f]++;
            throw new Refusal(-3);
        }
    }

    private static void within(int v, int from, int to) {
        need(from <= v && v <= to, -1);
    }

    private void one(int i) {
        within(i, 0, now().people.size() - 1);
    }

    private void people() {
        need(!now().people.isEmpty(), -4);
    }

    private void room(int n) {
        need(deeds() + n <= 40, -2);
    }

    private River deed() {
        River next = now().copy();
        history.add(next);
        return next;
    }

    private int tell(int v) {
        asked = v;
        return 1;
    }

    private void ratio(long up, long low) {
        long d = Math.max(low, 1);
        while (up % d != 0 || low % d != 0) {
            d--;
        }
        upper = up / d;
        lower = low / d;
    }

    int row(int r, int n) {
        within(r, 0, 5);
        need(n <= 40, -1);
        find(n >= 0, 5);
        rows[r] = new int[n];
        return n;
    }

    private void place(int r, int i) {
        within(r, 0, 5);
        find(rows[r] != null, 1);
        find(i >= 0 && i < rows[r].length, 2);
    }

    int lay(int r, int i, int v) {
        place(r, i);
        tell(rows[r][i]);
        rows[r][i] = v;
        return 1;
    }

    int at(int r, int i) {
        place(r, i);
        return tell(rows[r][i]);
    }

    int tear(int r) {
        within(r, 0, 5);
        find(rows[r] != null, 1);
        rows[r] = null;
        return 1;
    }

    int copy(int r, int i, int to, int j, int n) {
        within(r, 0, 5);
        within(to, 0, 5);
        find(n >= 0, 5);
        find(rows[r] != null && rows[to] != null, 1);
        find(i >= 0 && j >= 0 && (long) i + n <= rows[r].length && (long) j + n <= rows[to].length, 2);
        int[] taken = rows[r].clone();
        for (int k = 0; k < n; k++) {
            rows[to][j + k] = taken[i + k];
        }
        return 1;
    }

    int mean(int r) {
        within(r, 0, 5);
        find(rows[r] != null, 1);
        find(rows[r].length > 0, 4);
        long sum = 0;
        for (int v : rows[r]) {
            sum += v;
        }
        return tell((int) (sum / rows[r].length));
    }

    int text(int t, int n) {
        within(t, 0, 3);
        need(n <= 60, -1);
        find(n >= 0, 5);
        texts[t] = new byte[n];
        java.util.Arrays.fill(texts[t], (byte) ' ');
        return n;
    }

    int put(int t, int i, int v) {
        within(t, 0, 3);
        find(texts[t] != null, 1);
        find(i >= 0 && i < texts[t].length, 2);
        int was = texts[t][i];
        texts[t][i] = (byte) v;
        return was + 1000;
    }

    /** A machine that reads sign by sign; wanted: 0 the ford's letter, 1 its figure, 2 one of people, 3 to 5 figures. */
    private int read(byte[] text, River into) {
        int wanted = 0, kind = 0, door = 0, tens = 0;
        for (int at = 0; at < text.length; at++) {
            char c = (char) (text[at] & 255);
            boolean figure = c >= '0' && c <= '9';
            if (c == ' ' && (wanted == 0 || wanted == 2)) {
                continue;
            }
            if (wanted == 0 && c == 'f') {
                wanted = 1;
            } else if (wanted == 1 && figure) {
                into.ford = c - '0';
                wanted = 2;
            } else if (wanted == 2 && "pdebtq".indexOf(c) >= 0 && into.people.size() < 6) {
                kind = "pdebtq".indexOf(c);
                wanted = 3;
            } else if (wanted == 3 && figure) {
                door = c - '0';
                wanted = 4;
            } else if (wanted == 4 && figure) {
                tens = c - '0';
                wanted = 5;
            } else if (wanted == 5 && figure) {
                int daring = Integer.parseInt("" + tens + c);
                if (daring > 20) {
                    return at - 1;
                }
                into.people.add(person(kind, door, daring, 0));
                wanted = 2;
            } else {
                return at;
            }
        }
        return wanted == 2 && !into.people.isEmpty() ? -9 : text.length;
    }

    int fault(int t) {
        within(t, 0, 3);
        find(texts[t] != null, 1);
        return read(texts[t], new River());
    }

    int river(int t) {
        within(t, 0, 3);
        find(texts[t] != null, 1);
        River river = new River();
        need(read(texts[t], river) == -9, -4);
        history = new ArrayList<>(List.of(river));
        for (int k = 0; k < 3; k++) {
            kept.set(k, null);
        }
        return river.people.size();
    }

    private int toldOf(int i, int what) {
        Person p = now().people.get(i);
        int[] told = {kindOf(p), p.door, p.daring, now().dares(i), p.crossed, now().far(i)};
        return told[what];
    }

    int one(int i, int what) {
        one(i);
        within(what, 0, 5);
        return tell(toldOf(i, what));
    }

    int mark(int i, int kind) {
        one(i);
        within(kind, 1, 5);
        Person p = now().people.get(i);
        find(CLASSES[kind].isInstance(p), 3);
        switch (kind) {
            case 1: return p.dares(p.daring, now().number + 1, now().far(i));
            case 2: return p.daring >= 5 ? 0 : 5 - p.daring;
            case 3: return (int) now().people.stream().filter(o -> o.daring < p.daring).count();
            case 4: return now().dares(i) - p.daring;
            default: return new Fearful().dares(p.daring, 0, 0);
        }
    }

    int night() {
        people();
        room(1);
        return deed().night();
    }

    int raise(int i, int n) {
        one(i);
        within(n, 1, 9);
        need(now().people.get(i).daring + n <= 20, -4);
        room(1);
        return deed().people.get(i).daring += n;
    }

    int shame(int i, int n) {
        one(i);
        within(n, 1, 9);
        need(now().people.get(i).daring - n >= 0, -4);
        room(1);
        return deed().people.get(i).daring -= n;
    }

    int door(int i, int place) {
        one(i);
        within(place, 0, 9);
        int was = now().people.get(i).door;
        need(was != place, -4);
        room(1);
        deed().people.get(i).door = place;
        return was;
    }

    int undo(int n) {
        within(n, 0, deeds());
        int undone = deeds() - n;
        history = new ArrayList<>(history.subList(0, n + 1));
        return undone;
    }

    int keep(int k) {
        within(k, 0, 2);
        people();
        kept.set(k, new ArrayList<>(history));
        return deeds();
    }

    int on(int k) {
        within(k, 0, 2);
        find(kept.get(k) != null, 1);
        history = new ArrayList<>(kept.get(k));
        return deeds();
    }

    int dares(int i, int daring, int number, int far) {
        one(i);
        within(daring, 0, 20);
        within(number, 0, 99);
        within(far, 0, 9);
        return now().people.get(i).dares(daring, number, far);
    }

    private static List<Integer> holders(River from, int n) {
        River river = from.copy();
        List<Integer> holders = new ArrayList<>();
        for (int k = 0; k < n; k++) {
            holders.add(river.night());
        }
        return holders;
    }

    int where(int n) {
        within(n, 0, 40);
        people();
        List<Integer> holders = holders(now(), n);
        tell(n == 0 ? -9 : holders.get(n - 1));
        int ford = now().ford;
        for (int who : holders) {
            ford = who >= 0 ? now().people.get(who).door : ford;
        }
        return ford;
    }

    int crosses(int i, int n) {
        one(i);
        within(n, 0, 40);
        return (int) holders(now(), n).stream().filter(who -> who == i).count();
    }

    int first(int i) {
        one(i);
        int place = holders(now(), 40).indexOf(i);
        return place < 0 ? -9 : place + 1;
    }

    int lift(int i, int n) {
        one(i);
        within(n, 1, 20);
        for (int daring = now().people.get(i).daring; daring <= 20; daring++) {
            River river = now().copy();
            river.people.get(i).daring = daring;
            if (holders(river, n).get(n - 1) == i) {
                return daring - now().people.get(i).daring;
            }
        }
        return -9;
    }

    /** All raisings and shamings that together come to at most so much, the least first. */
    private int[] cheapest(int i) {
        int size = now().people.size();
        int sum = 0;
        for (Person p : now().people) {
            sum += 20 + p.daring;
        }
        for (int price = 0; price <= sum; price++) {
            int[] by = new int[size];
            for (by[i] = 0; by[i] <= price && now().people.get(i).daring + by[i] <= 20; by[i]++) {
                if (shamed(i, by, 0, price - by[i])) {
                    return by;
                }
            }
        }
        return null;
    }

    private boolean shamed(int i, int[] by, int j, int left) {
        if (j == by.length) {
            River river = now().copy();
            for (int k = 0; k < by.length; k++) {
                river.people.get(k).daring += k == i ? by[k] : -by[k];
            }
            return left == 0 && river.next(0) == i;
        }
        if (j == i) {
            return shamed(i, by, j + 1, left);
        }
        for (by[j] = 0; by[j] <= Math.min(left, now().people.get(j).daring); by[j]++) {
            if (shamed(i, by, j + 1, left - by[j])) {
                return true;
            }
        }
        return false;
    }

    int cheap(int i, int r) {
        one(i);
        within(r, 0, 5);
        int[] by = cheapest(i);
        if (by == null) {
            return -9;
        }
        rows[r] = by;
        int price = 0;
        for (int each : by) {
            price += each;
        }
        return price;
    }

    private List<Integer> holdersRow(int i, int r) {
        one(i);
        within(r, 0, 5);
        find(rows[r] != null, 1);
        find(rows[r].length >= 1 && rows[r].length <= 10, 5);
        List<Integer> row = new ArrayList<>();
        for (int who : rows[r]) {
            find(who >= 0 && who < now().people.size(), 3);
            row.add(who);
        }
        return row;
    }

    private River with(int i, int kind, int daring) {
        River river = now().copy();
        Person p = river.people.get(i);
        river.people.set(i, person(kind, p.door, daring, p.crossed));
        return river;
    }

    int darings(int i, int r) {
        List<Integer> row = holdersRow(i, r);
        int bits = 0;
        for (int daring = 0; daring <= 20; daring++) {
            if (holders(with(i, toldOf(i, 0), daring), row.size()).equals(row)) {
                bits += 1 << daring;
            }
        }
        return bits;
    }

    int kinds(int i, int r) {
        List<Integer> row = holdersRow(i, r);
        int bits = 0;
        for (int kind = 0; kind < 6; kind++) {
            if (holders(with(i, kind, toldOf(i, 2)), row.size()).equals(row)) {
                bits += 1 << kind;
            }
        }
        return bits;
    }

    int look(int i, int r) {
        int bits = darings(i, r);
        int best = -9;
        int least = 99;
        for (int n = 1; n <= 20; n++) {
            int greatest = 0;
            for (int who = -9; who < 6; who++) {
                int part = 0;
                for (int daring = 0; daring <= 20; daring++) {
                    if ((bits & 1 << daring) != 0 && holders(with(i, toldOf(i, 0), daring), n).get(n - 1) == who) {
                        part++;
                    }
                }
                greatest = Math.max(greatest, part);
            }
            if (bits != 0 && greatest < least) {
                least = greatest;
                best = n;
            }
        }
        if (best > 0) {
            tell(least);
        }
        return best;
    }

    private List<Integer> setsOf(int v) {
        List<Integer> sets = new ArrayList<>();
        for (int bits = 0; bits < 1 << now().people.size(); bits++) {
            int sum = 0;
            for (int i = 0; i < now().people.size(); i++) {
                sum += (bits >> i) % 2 * now().people.get(i).daring;
            }
            if (sum == v) {
                sets.add(bits);
            }
        }
        return sets;
    }

    int sets(int v) {
        within(v, 0, 120);
        people();
        List<Integer> sets = setsOf(v);
        upper = sets.size();
        lower = 1;
        return tell(sets.isEmpty() ? -9 : sets.get(0));
    }

    int sure(int v) {
        within(v, 0, 120);
        people();
        List<Integer> sets = setsOf(v);
        find(!sets.isEmpty(), 4);
        int in = 0;
        int out = 0;
        for (int i = 0; i < now().people.size(); i++) {
            int bit = 1 << i;
            in += sets.stream().allMatch(set -> (set & bit) != 0) ? bit : 0;
            out += sets.stream().noneMatch(set -> (set & bit) != 0) ? bit : 0;
        }
        tell(out);
        return in;
    }

    /** What the one whose turn it is can have, each seeing its own gain. */
    private static int gain(River river, int mine, int yours, int turns) {
        if (turns == 0) {
            int who = river.next(0);
            return who == mine ? 1 : who == yours ? -1 : 0;
        }
        int best = -1;
        for (int by = 0; by < 3; by++) {
            River then = river.copy();
            if (then.people.get(mine).daring + by <= 20) {
                then.people.get(mine).daring += by;
                best = Math.max(best, -gain(then, yours, mine, turns - 1));
            }
        }
        return best;
    }

    int duel(int i, int j, int n) {
        one(i);
        one(j);
        need(i != j, -1);
        within(n, 0, 3);
        return tell(gain(now(), i, j, 2 * n));
    }

    private long cases(int p, int who) {
        long all = 0;
        for (int failing = 0; failing < 1 << now().people.size(); failing++) {
            if (now().next(failing) == who) {
                long cases = 1;
                for (int i = 0; i < now().people.size(); i++) {
                    cases *= (failing & 1 << i) != 0 ? p : 12 - p;
                }
                all += cases;
            }
        }
        return all;
    }

    private long allCases() {
        return Math.round(Math.pow(12, now().people.size()));
    }

    private long farCases(int place, int p) {
        long far = cases(p, -9) * Math.abs(now().ford - place);
        for (int i = 0; i < now().people.size(); i++) {
            far += cases(p, i) * Math.abs(now().people.get(i).door - place);
        }
        return far;
    }

    int odds(int i, int p) {
        one(i);
        within(p, 0, 12);
        ratio(cases(p, i), allCases());
        return 1;
    }

    int mid(int place, int p) {
        within(place, 0, 9);
        within(p, 0, 12);
        people();
        ratio(farCases(place, p), allCases());
        return 1;
    }

    int fair(int p) {
        within(p, 0, 12);
        people();
        int best = 0;
        for (int place = 9; place >= 0; place--) {
            best = farCases(place, p) <= farCases(best, p) ? place : best;
        }
        ratio(farCases(best, p), allCases());
        return best;
    }

    int lots(int n, int seed) {
        within(n, 1, 20);
        within(seed, 1, 2147483646);
        people();
        room(n);
        long lot = seed;
        for (int k = 0; k < n; k++) {
            lot = lot * 48271 % 2147483647;
            River river = deed();
            Person p = river.people.get((int) (lot % river.people.size()));
            int by = 1 + (int) (lot / 64 % 5);
            switch ((int) (lot / 8 % 8)) {
                case 0, 1 -> p.daring = Math.min(20, p.daring + by);
                case 2 -> p.daring = Math.max(0, p.daring - by);
                case 3 -> p.door = (int) (lot / 64 % 10);
                default -> river.night();
            }
        }
        return now().ford;
    }

    int asked() {
        return asked;
    }

    long upper() {
        return upper;
    }

    long lower() {
        return lower;
    }

    int count(int what) {
        within(what, 0, 11);
        River river = now();
        int next = river.next(0);
        int[] counts = {river.people.size(), river.number, deeds(), river.ford, next < 0 ? 0 : 1 << next, 0, 0, 0, 0, 0, 0, 0};
        for (Person p : river.people) {
            counts[5] += p.daring;
            counts[6] += p.crossed;
            counts[7] += p instanceof Fearful ? 1 : 0;
            counts[8] += p instanceof Bred ? 1 : 0;
        }
        for (int[] row : rows) {
            counts[9] += row != null ? 1 : 0;
        }
        for (byte[] text : texts) {
            counts[10] += text != null ? 1 : 0;
        }
        for (List<River> one : kept) {
            counts[11] += one != null ? 1 : 0;
        }
        return counts[what];
    }

    int finding() {
        return finding;
    }

    int findings(int f) {
        within(f, 1, 5);
        return findings[f];
    }

    long digest() {
        List<Long> seen = new ArrayList<>();
        for (int what = 0; what < 12; what++) {
            seen.add((long) count(what));
        }
        for (int i = 0; i < now().people.size(); i++) {
            for (int what = 0; what < 6; what++) {
                seen.add((long) toldOf(i, what));
            }
        }
        for (List<River> one : kept) {
            seen.add(one == null ? -1L : one.size() - 1);
        }
        for (int[] row : rows) {
            seen.add(row == null ? -1L : row.length);
            for (int v : row == null ? new int[0] : row) {
                seen.add((long) v);
            }
        }
        for (byte[] text : texts) {
            seen.add(text == null ? -1L : text.length);
            for (byte v : text == null ? new byte[0] : text) {
                seen.add((long) v);
            }
        }
        long h = 17;
        for (long v : seen) {
            h = 31 * h + v;
        }
        return h;
    }
}
