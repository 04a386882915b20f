import java.util.ArrayList;
import java.util.Arrays;
import java.util.Comparator;
import java.util.List;

/**
 * The document once more, as plainly as it can be written: every ROW is listed, nothing is remembered, and the host is
 * Java's own arrays, casts and exceptions. AgainstModelTest holds HadForVoice against it.
 */
final class Model {
    static final int BAD = -1, FULL = -2, NONE = -3, STATE = -4;
    static final String[] KINDS = {"person", "maid", "miser", "widow", "prince", "beast"};

    /** A PERSON; classes of KINDS with their ACTS. */
    static class Being {
        int number, kind, has, needs, coins;
        boolean[] meets = new boolean[6];

        boolean isWhole() {
            return has == needs;
        }

        Being copy() {
            Being b = new Being();
            b.number = number;
            b.kind = kind;
            b.has = has;
            b.needs = needs;
            b.coins = coins;
            b.meets = meets.clone();
            return b;
        }
    }

    /** A condition: of a RULE, asked about a PERSON. */
    interface Cond {
        boolean holds(World w, Being b);
    }

    interface Value {
        int of(World w, Being b);
    }

    record Rule(int kind, Cond cond, String deed, int n) { }

    record Entry(int change, int gave, int got) { }

    record Report(int given, int got, int asked) { }

    /** A ROW of CHANGES, what it cost, and how it is behind it. */
    record Row(List<Integer> changes, int cost, World behind) { }

    static final Comparator<Row> FIRST = (a, b) -> {
        for (int i = 0; i < Math.min(a.changes.size(), b.changes.size()); i++) {
            if (!a.changes.get(i).equals(b.changes.get(i))) {
                return a.changes.get(i) - b.changes.get(i);
            }
        }
        return a.changes.size() - b.changes.size();
    };

    static final class World {
        List<Being> people = new ArrayList<>();
        int[] worth = new int[8], jar = new int[8];
        int fee, z = 1;
        int without = -1;
        List<Rule> rules = List.of();
        List<Entry> ledger = new ArrayList<>();
        List<Report> reports = new ArrayList<>();

        World copy() {
            World w = new World();
            for (Being b : people) {
                w.people.add(b.copy());
            }
            w.worth = worth.clone();
            w.jar = jar.clone();
            w.fee = fee;
            w.z = z;
            w.without = without;
            w.rules = rules;
            w.ledger = new ArrayList<>(ledger);
            w.reports = new ArrayList<>(reports);
            return w;
        }

        int wholeSet() {
            int set = 0;
            for (Being b : people) {
                set |= b.isWhole() ? 1 << b.number : 0;
            }
            return set;
        }

        /** As the document counts them: who is left out is as if not there. */
        int wholeCount() {
            return (int) people.stream().filter(b -> b.isWhole() && b.number != without).count();
        }

        int coins() {
            return people.stream().mapToInt(b -> b.coins).sum();
        }

        boolean done() {
            return people.stream().allMatch(b -> b.isWhole() || b.number == without);
        }

        int asks(Being b) {
            int p = Math.max(0, worth[b.needs] - worth[b.has]) + fee;
            for (Rule r : rules) {
                if (under(b.kind, r.kind) && r.cond.holds(this, b)) {
                    p = switch (r.deed) {
                        case "more" -> p + r.n;
                        case "less" -> Math.max(0, p - r.n);
                        default -> 0;
                    };
                    break;
                }
            }
            int miser = Math.max(0, p - b.coins / 10);
            return switch (KINDS[b.kind]) {
                case "miser" -> miser;
                case "widow" -> wholeCount() == 0 ? miser / 2 : miser;
                case "prince" -> 2 * p;
                case "beast" -> Math.max(0, 2 * p - 7);
                default -> p;
            };
        }

        boolean isChange(int c) {
            if (c < 0) {
                return false;
            }
            int p = c / 10, q = c % 10;
            return p < people.size() && (q == 9 || q > p && q < people.size());
        }

        boolean canBe(int c) {
            if (!isChange(c) || c / 10 == without || c % 10 == without) {
                return false;
            }
            Being p = people.get(c / 10);
            if (p.isWhole()) {
                return false;
            }
            if (c % 10 == 9) {
                return jar[p.needs] > 0 && jar[p.has] < 99 && p.coins >= asks(p);
            }
            Being q = people.get(c % 10);
            return p.meets[q.number] && !q.isWhole() && (p.needs == q.has || q.needs == p.has);
        }

        List<Integer> cans() {
            List<Integer> all = new ArrayList<>();
            for (int c = 0; c < 100; c++) {
                if (canBe(c)) {
                    all.add(c);
                }
            }
            return all;
        }

        int make(int c) {
            Being p = people.get(c / 10);
            int paid = 0, had = p.has;
            if (c % 10 == 9) {
                paid = asks(p);
                p.coins -= paid;
                jar[p.has]++;
                jar[p.needs]--;
                p.has = p.needs;
            } else {
                Being q = people.get(c % 10);
                p.has = q.has;
                q.has = had;
            }
            ledger.add(new Entry(c, had, p.has));
            if (ledger.size() > 12) {
                ledger.remove(0);
            }
            return paid;
        }

        int draw() {
            List<Integer> cans = cans();
            if (cans.isEmpty()) {
                return NONE;
            }
            z = z * 1103515245 + 12345;
            int c = cans.get((z >>> 16) % cans.size());
            make(c);
            return c;
        }

        /** All ROWS of n or fewer, the empty one too. */
        List<Row> rows(int n) {
            List<Row> all = new ArrayList<>();
            addRows(n, new ArrayList<>(), 0, all);
            return all;
        }

        private void addRows(int n, List<Integer> made, int cost, List<Row> all) {
            all.add(new Row(List.copyOf(made), cost, this));
            if (n == 0) {
                return;
            }
            for (int c : cans()) {
                World w = copy();
                int paid = w.make(c);
                made.add(c);
                w.addRows(n - 1, made, cost + paid, all);
                made.remove(made.size() - 1);
            }
        }

        List<Row> doneRows(int n) {
            return rows(n).stream().filter(r -> r.behind.done()).toList();
        }

        /** 0 who is in turn wins, 1 the other one, 2 nobody. */
        int game(int n) {
            if (n == 0) {
                return 2;
            }
            int best = 1;
            for (int c : cans()) {
                World w = copy();
                w.make(c);
                int theirs = w.game(n - 1);
                int mine = theirs == 2 ? 2 : 1 - theirs;
                if (mine == 0 || mine == 2 && best == 1) {
                    best = mine;
                }
            }
            return best;
        }

        void rings(int k, List<Integer> path, List<List<Integer>> all) {
            if (path.size() == k) {
                for (int i = 0; i < k; i++) {
                    Being b = people.get(path.get(i)), next = people.get(path.get((i + 1) % k));
                    if (b.isWhole() || !b.meets[next.number] || b.needs != next.has || next.number < path.get(0)) {
                        return;
                    }
                }
                all.add(List.copyOf(path));
                return;
            }
            for (int q = 0; q < people.size(); q++) {
                if (!path.contains(q)) {
                    path.add(q);
                    rings(k, path, all);
                    path.remove(path.size() - 1);
                }
            }
        }

        int comes(int p, int n) {
            int set = 1 << people.get(p).has;
            if (n == 0) {
                return set;
            }
            for (Being other : people) {
                Being own = people.get(p);
                if (own.meets[other.number] && own.has != other.has && worth[own.has] >= worth[other.has]) {
                    World w = copy();
                    w.people.get(p).has = other.has;
                    w.people.get(other.number).has = own.has;
                    set |= w.comes(p, n - 1);
                }
            }
            return set;
        }

        List<int[]> laws(int but) {
            List<int[]> fit = new ArrayList<>();
            for (int times = 0; times <= 3; times++) {
                for (int fee = 0; fee <= 50; fee++) {
                    boolean all = true;
                    for (int k = 0; k < reports.size(); k++) {
                        Report r = reports.get(k);
                        all &= k == but || r.asked == times * Math.max(0, r.got - r.given) + fee;
                    }
                    if (all) {
                        fit.add(new int[] {times, fee});
                    }
                }
            }
            return fit;
        }
    }

    static boolean under(int kind, int above) {
        return switch (kind) {
            case 3 -> above == 3 || above == 2 || above == 0;
            case 5 -> above == 5 || above == 4 || above == 0;
            default -> above == kind || above == 0;
        };
    }

    // ---- the reader of THE RULES: by places, byte for byte

    static final class Fault extends RuntimeException {
        private static final long serialVersionUID = 1;
        final int place;

        Fault(int place) {
            super(null, null, false, false);
            this.place = place;
        }
    }

    static final class Reader {
        final String text;
        int place;

        Reader(String text) {
            this.text = text;
        }

        /** The next NAME, NUMBER or byte, without taking it; "" at the end. */
        String peek() {
            while (place < text.length() && text.charAt(place) == ' ') {
                place++;
            }
            int end = place;
            if (end < text.length() && text.charAt(end) >= 'a' && text.charAt(end) <= 'z') {
                while (end < text.length() && text.charAt(end) >= 'a' && text.charAt(end) <= 'z') {
                    end++;
                }
            } else if (end < text.length() && text.charAt(end) >= '0' && text.charAt(end) <= '9') {
                while (end < text.length() && text.charAt(end) >= '0' && text.charAt(end) <= '9') {
                    end++;
                }
            } else if (end < text.length()) {
                end++;
            }
            return text.substring(place, end);
        }

        String take(String... allowed) {
            String next = peek();
            if (!Arrays.asList(allowed).contains(next)) {
                throw new Fault(place);
            }
            place += next.length();
            return next;
        }

        boolean tryTake(String one) {
            if (peek().equals(one)) {
                place += one.length();
                return true;
            }
            return false;
        }

        List<Rule> rules() {
            List<Rule> all = new ArrayList<>();
            while (!peek().isEmpty()) {
                if (all.size() == 8) {
                    throw new Fault(place);
                }
                int kind = Arrays.asList(KINDS).indexOf(take(KINDS));
                Cond cond = tryTake("if") ? cond(0) : (w, b) -> true;
                String deed = take("more", "less", "free");
                int n = deed.equals("free") ? 0 : number(99);
                take(";");
                all.add(new Rule(kind, cond, deed, n));
            }
            return all;
        }

        int number(int most) {
            String next = peek();
            if (!next.matches("[0-9]{1,4}") || Integer.parseInt(next) > most) {
                throw new Fault(place);
            }
            place += next.length();
            return Integer.parseInt(next);
        }

        Cond cond(int open) {
            Cond left = all(open);
            while (tryTake("or")) {
                Cond a = left, b = all(open);
                left = (w, x) -> a.holds(w, x) || b.holds(w, x);
            }
            return left;
        }

        Cond all(int open) {
            Cond left = one(open);
            while (tryTake("and")) {
                Cond a = left, b = one(open);
                left = (w, x) -> a.holds(w, x) && b.holds(w, x);
            }
            return left;
        }

        Cond one(int open) {
            if (tryTake("not")) {
                Cond inner = one(open);
                return (w, x) -> !inner.holds(w, x);
            }
            if (peek().equals("(")) {
                if (open == 3) {
                    throw new Fault(place);
                }
                take("(");
                Cond inner = cond(open + 1);
                take(")");
                return inner;
            }
            Value left = value();
            String sign = take("<", "=", ">");
            Value right = value();
            return (w, x) -> {
                int a = left.of(w, x), b = right.of(w, x);
                return sign.equals("<") ? a < b : sign.equals("=") ? a == b : a > b;
            };
        }

        Value value() {
            if (peek().matches("[0-9]+")) {
                int n = number(9999);
                return (w, b) -> n;
            }
            return switch (take("has", "need", "coins", "whole", "number")) {
                case "has" -> (w, b) -> w.worth[b.has];
                case "need" -> (w, b) -> w.worth[b.needs];
                case "coins" -> (w, b) -> b.coins;
                case "whole" -> (w, b) -> w.wholeCount();
                default -> (w, b) -> b.number;
            };
        }
    }

    // ---- ACTS

    static class P {
        int n, a;
        List<Integer> trace;

        int gives(int x) {
            trace.add(10);
            return x + a;
        }

        int takes(int x) {
            trace.add(11);
            return gives(x) - n;
        }

        int halves(int x) {
            trace.add(12);
            return x / (a - n);
        }

        int owes(int x) {
            trace.add(13);
            return takes(x) ^ a;
        }
    }

    static class Maid extends P {
        int gives(int x) {
            trace.add(20);
            return super.gives(x) * 2;
        }
    }

    static class Miser extends P {
        int takes(int x) {
            trace.add(30);
            return super.takes(x) ^ n;
        }
    }

    static class Prince extends P {
        int halves(int x) {
            trace.add(40);
            return super.halves(x - 3);
        }
    }

    static class Widow extends Miser {
        int gives(int x) {
            trace.add(50);
            return super.gives(x) - 1;
        }

        int owes(int x) {
            trace.add(51);
            return super.owes(x) + halves(a);
        }
    }

    static class Beast extends Prince {
        int takes(int x) {
            trace.add(60);
            return 0 - super.takes(x);
        }

        int halves(int x) {
            trace.add(61);
            return super.halves(x) - gives(n);
        }
    }

    // ---- the face

    World w = new World(), kept;
    StringBuilder tape = new StringBuilder();
    List<int[]> rows = new ArrayList<>();
    Object[] sheets = new Object[4];
    Object[] shelves = new Object[4];
    List<Integer> trace = new ArrayList<>();

    static boolean in(int v, int least, int most) {
        return least <= v && v <= most;
    }

    boolean isPerson(int p) {
        return in(p, 0, w.people.size() - 1);
    }

    int person(int kind, int has, int needs, int coins) {
        if (!in(kind, 1, 5) || !in(has, 0, 7) || !in(needs, 0, 7) || !in(coins, 0, 999)) {
            return BAD;
        }
        if (w.people.size() == 6) {
            return FULL;
        }
        Being b = new Being();
        b.number = w.people.size();
        b.kind = kind;
        b.has = has;
        b.needs = needs;
        b.coins = coins;
        w.people.add(b);
        return b.number;
    }

    int personOf(int p, int what) {
        if (!isPerson(p)) {
            return BAD;
        }
        Being b = w.people.get(p);
        int meets = 0;
        for (int q = 0; q < 6; q++) {
            meets += b.meets[q] ? 1 << q : 0;
        }
        return switch (what) {
            case 0 -> b.kind;
            case 1 -> b.has;
            case 2 -> b.needs;
            case 3 -> b.coins;
            case 4 -> w.asks(b);
            case 5 -> b.isWhole() ? 1 : 0;
            case 6 -> meets;
            default -> BAD;
        };
    }

    int change(int p, int what, int v) {
        if (!isPerson(p) || !in(what, 1, 3) || v < 0 || v > (what == 3 ? 999 : 7)) {
            return BAD;
        }
        int was = personOf(p, what);
        Being b = w.people.get(p);
        switch (what) {
            case 1 -> b.has = v;
            case 2 -> b.needs = v;
            default -> b.coins = v;
        }
        return was;
    }

    int remake(int p, int kind) {
        if (!isPerson(p) || !in(kind, 1, 5)) {
            return BAD;
        }
        int was = w.people.get(p).kind;
        w.people.get(p).kind = kind;
        return was;
    }

    int meets(int p, int q, boolean is) {
        if (!isPerson(p) || !isPerson(q) || p == q) {
            return BAD;
        }
        boolean did = w.people.get(p).meets[q];
        w.people.get(p).meets[q] = is;
        w.people.get(q).meets[p] = is;
        return did ? 1 : 0;
    }

    static int replace(int[] all, int i, int v, int most) {
        if (!in(i, 0, 7) || !in(v, 0, most)) {
            return BAD;
        }
        int was = all[i];
        all[i] = v;
        return was;
    }

    int worth(int thing, int v) {
        return replace(w.worth, thing, v, 99);
    }

    int jar(int thing, int n) {
        return replace(w.jar, thing, n, 9);
    }

    int fee(int v) {
        if (!in(v, 0, 50)) {
            return BAD;
        }
        int was = w.fee;
        w.fee = v;
        return was;
    }

    int thing(int thing, int what) {
        if (!in(thing, 0, 7) || !in(what, 0, 3)) {
            return BAD;
        }
        int have = 0, need = 0;
        for (Being b : w.people) {
            have |= b.has == thing ? 1 << b.number : 0;
            need |= b.needs == thing ? 1 << b.number : 0;
        }
        return new int[] {w.worth[thing], w.jar[thing], have, need}[what];
    }

    int state(int what) {
        return in(what, 0, 3) ? new int[] {w.wholeSet(), w.coins(), w.fee, w.ledger.size()}[what] : BAD;
    }

    int feed(long eight, int n) {
        if (!in(n, 1, 8)) {
            return BAD;
        }
        if (tape.length() + n > 200) {
            return FULL;
        }
        for (int i = 0; i < n; i++) {
            tape.append((char) (eight >> 8 * i & 255));
        }
        return tape.length();
    }

    int rules() {
        String text = tape.toString();
        tape.setLength(0);
        try {
            w.rules = new Reader(text).rules();
            return w.rules.size();
        } catch (Fault fault) {
            return -100 - fault.place;
        }
    }

    int cans(int from) {
        return from < -1 ? BAD : w.cans().stream().filter(c -> c > from).findFirst().orElse(NONE);
    }

    int make(int p, int q) {
        if (!isPerson(p) || q != 9 && (q <= p || !isPerson(q))) {
            return BAD;
        }
        return w.canBe(10 * p + q) ? w.make(10 * p + q) : STATE;
    }

    int back() {
        if (w.ledger.isEmpty()) {
            return NONE;
        }
        Entry e = w.ledger.get(w.ledger.size() - 1);
        Being p = w.people.get(e.change / 10);
        if (p.has != e.got) {
            return STATE;
        }
        if (e.change % 10 == 9) {
            if (w.jar[e.gave] == 0 || w.jar[e.got] == 99) {
                return STATE;
            }
            w.jar[e.gave]--;
            w.jar[e.got]++;
        } else {
            Being q = w.people.get(e.change % 10);
            if (q.has != e.gave) {
                return STATE;
            }
            q.has = e.got;
        }
        p.has = e.gave;
        w.ledger.remove(w.ledger.size() - 1);
        return e.change;
    }

    Row shortest() {
        return w.doneRows(6).stream().min(Comparator.comparingInt((Row r) -> r.changes.size()).thenComparing(FIRST))
            .orElse(null);
    }

    int fewest() {
        Row r = shortest();
        return r == null ? NONE : r.changes.size();
    }

    static int ithOf(Row r, int i) {
        return r == null || i >= r.changes.size() ? NONE : r.changes.get(i);
    }

    int ith(int i) {
        return in(i, 0, 5) ? ithOf(shortest(), i) : BAD;
    }

    int ways(int n) {
        return in(n, 0, 6) ? w.doneRows(n).size() : BAD;
    }

    int most(int n) {
        return in(n, 0, 6) ? mostIn(w, n) : BAD;
    }

    static int mostIn(World w, int n) {
        return w.rows(n).stream().mapToInt(r -> Integer.bitCount(r.behind.wholeSet())).max().orElse(0);
    }

    Row cheapestRow(int n) {
        return w.doneRows(n).stream().min(Comparator.comparingInt(Row::cost).thenComparing(FIRST)).orElse(null);
    }

    int cheapest(int n) {
        if (!in(n, 0, 6)) {
            return BAD;
        }
        Row r = cheapestRow(n);
        return r == null ? NONE : r.cost;
    }

    int cheaply(int n, int i) {
        return in(n, 0, 6) && in(i, 0, 5) ? ithOf(cheapestRow(n), i) : BAD;
    }

    int bars() {
        int set = 0;
        if (!w.doneRows(6).isEmpty()) {
            return 0;
        }
        for (Being b : w.people) {
            World other = w.copy();
            other.without = b.number;
            set |= other.doneRows(6).isEmpty() ? 0 : 1 << b.number;
        }
        return set;
    }

    int jars() {
        int most = mostIn(w, 6), best = NONE;
        for (int t = 0; t < 8; t++) {
            World other = w.copy();
            other.jar[t]++;
            int with = mostIn(other, 6);
            if (with > most) {
                most = with;
                best = t;
            }
        }
        return best;
    }

    int feeFor(int n) {
        if (!in(n, 1, 6)) {
            return BAD;
        }
        for (int fee = 50; fee >= 0; fee--) {
            World other = w.copy();
            other.fee = fee;
            if (!other.doneRows(n).isEmpty()) {
                return fee;
            }
        }
        return NONE;
    }

    List<List<Integer>> allRings(int k) {
        List<List<Integer>> all = new ArrayList<>();
        w.rings(k, new ArrayList<>(), all);
        return all;
    }

    int rings(int k) {
        return in(k, 2, 6) ? allRings(k).size() : BAD;
    }

    int ring(int k, int i) {
        if (!in(k, 2, 6) || !in(i, 0, k - 1)) {
            return BAD;
        }
        return rings(k) == 0 ? NONE : allRings(k).get(0).get(i);
    }

    int comes(int p, int n) {
        return isPerson(p) && in(n, 0, 4) ? w.comes(p, n) : BAD;
    }

    int dearest(int p, int n) {
        int set = comes(p, n);
        if (set < 0) {
            return BAD;
        }
        int best = -1;
        for (int t = 0; t < 8; t++) {
            if ((set >> t & 1) == 1 && (best < 0 || w.worth[t] > w.worth[best])) {
                best = t;
            }
        }
        return best;
    }

    int game(int n) {
        return in(n, 1, 6) ? w.game(n) : BAD;
    }

    int play(int n) {
        if (!in(n, 1, 6)) {
            return BAD;
        }
        int value = w.game(n);
        for (int c : w.cans()) {
            World other = w.copy();
            other.make(c);
            int theirs = other.game(n - 1);
            if ((theirs == 2 ? 2 : 1 - theirs) == value) {
                return c;
            }
        }
        return NONE;
    }

    int report(int given, int got, int asked) {
        if (!in(given, 0, 99) || !in(got, 0, 99) || !in(asked, 0, 999)) {
            return BAD;
        }
        if (w.reports.size() == 6) {
            return FULL;
        }
        w.reports.add(new Report(given, got, asked));
        return w.reports.size() - 1;
    }

    int forget() {
        int were = w.reports.size();
        w.reports.clear();
        return were;
    }

    int span(int what) {
        if (!in(what, 0, 2)) {
            return BAD;
        }
        List<int[]> laws = w.laws(-1);
        return what == 0 ? laws.size() : laws.isEmpty() ? NONE : laws.get(0)[what - 1];
    }

    int liar() {
        for (int k = 0; w.laws(-1).isEmpty() && k < w.reports.size(); k++) {
            if (!w.laws(k).isEmpty()) {
                return k;
            }
        }
        return NONE;
    }

    int seed(int v) {
        int was = w.z;
        w.z = v;
        return was;
    }

    int draw() {
        return w.draw();
    }

    int often(int n) {
        if (!in(n, 1, 60)) {
            return BAD;
        }
        int often = 0, z = w.z;
        for (int i = 0; i < n; i++) {
            World run = w.copy();
            run.z = z;
            while (run.draw() != NONE) {
                z = run.z;
            }
            often += run.done() ? 1 : 0;
        }
        return often;
    }

    int prove() {
        Row r = shortest();
        if (r == null) {
            return NONE;
        }
        rows.clear();
        World run = w.copy();
        for (int c : r.changes) {
            run.make(c);
            rows.add(new int[] {c, run.coins(), run.wholeSet()});
        }
        return rows.size();
    }

    int row(int k, int what) {
        return in(k, 0, rows.size() - 1) && in(what, 0, 2) ? rows.get(k)[what] : -9;
    }

    int alterRow(int k, int what, int v) {
        int was = row(k, what);
        if (in(k, 0, rows.size() - 1) && in(what, 0, 2)) {
            rows.get(k)[what] = v;
        }
        return was;
    }

    int judge() {
        World run = w.copy();
        for (int k = 0; k < rows.size(); k++) {
            int[] r = rows.get(k);
            if (!run.canBe(r[0])) {
                return k + 1;
            }
            run.make(r[0]);
            if (r[1] != run.coins() || r[2] != run.wholeSet() || k + 1 == rows.size() && !run.done()) {
                return k + 1;
            }
        }
        return 0;
    }

    int refused(RuntimeException e) {
        if (e instanceof ClassCastException) {
            return -13;
        }
        if (e instanceof NullPointerException) {
            return -11;
        }
        if (e instanceof ArrayIndexOutOfBoundsException) {
            return -12;
        }
        if (e instanceof NegativeArraySizeException) {
            return -14;
        }
        if (e instanceof ArithmeticException) {
            return -15;
        }
        throw e;
    }

    int sheet(int sheet, int sort, int n) {
        if (!in(sheet, 0, 3) || !in(sort, -1, 4) || sort >= 0 && n > 40) {
            return BAD;
        }
        try {
            sheets[sheet] = switch (sort) {
                case 0 -> new byte[n];
                case 1 -> new short[n];
                case 2 -> new int[n];
                case 3 -> new long[n];
                case 4 -> new boolean[n];
                default -> null;
            };
            return 1;
        } catch (NegativeArraySizeException e) {
            return refused(e);
        }
    }

    int write(int sheet, int i, int v) {
        if (!in(sheet, 0, 3)) {
            return BAD;
        }
        Object s = sheets[sheet];
        try {
            if (s instanceof byte[] b) {
                b[i] = (byte) v;
            } else if (s instanceof short[] h) {
                h[i] = (short) v;
            } else if (s instanceof long[] l) {
                l[i] = v;
            } else if (s instanceof boolean[] z) {
                z[i] = v != 0;
            } else {
                ((int[]) s)[i] = v;
            }
            return 1;
        } catch (NullPointerException | ArrayIndexOutOfBoundsException e) {
            return refused(e);
        }
    }

    int item(int sheet, int sort, int i) {
        if (!in(sheet, 0, 3) || !in(sort, 0, 4)) {
            return BAD;
        }
        Object s = sheets[sheet];
        try {
            return switch (sort) {
                case 0 -> ((byte[]) s)[i];
                case 1 -> ((short[]) s)[i];
                case 2 -> ((int[]) s)[i];
                case 3 -> (int) ((long[]) s)[i];
                default -> ((boolean[]) s)[i] ? 1 : 0;
            };
        } catch (NullPointerException | ArrayIndexOutOfBoundsException | ClassCastException e) {
            return refused(e);
        }
    }

    int makeAll(int sheet, int i, int n) {
        if (!in(sheet, 0, 3) || !in(n, 0, 20)) {
            return BAD;
        }
        try {
            byte[] items = (byte[]) sheets[sheet];
            int were = items.length * 0;
            for (int k = 0; k < n; k++) {
                if (w.canBe(items[i + k])) {
                    w.make(items[i + k]);
                    were++;
                }
            }
            return were;
        } catch (NullPointerException | ArrayIndexOutOfBoundsException | ClassCastException e) {
            return refused(e);
        }
    }

    int wouldCost(int sheet, int i, int n) {
        if (!in(sheet, 0, 3) || !in(n, 0, 20)) {
            return BAD;
        }
        try {
            byte[] items = (byte[]) sheets[sheet];
            int cost = items.length * 0;
            World run = w.copy();
            for (int k = 0; k < n; k++) {
                if (!run.canBe(items[i + k])) {
                    return STATE;
                }
                cost += run.make(items[i + k]);
            }
            return cost;
        } catch (NullPointerException | ArrayIndexOutOfBoundsException | ClassCastException e) {
            return refused(e);
        }
    }

    int shelf(int shelf, int what, int n) {
        if (!in(shelf, 0, 3) || !in(what, 0, 2) || what == 0 && !isPerson(n) || what == 1 && !in(n, 0, 3)) {
            return BAD;
        }
        shelves[shelf] = what == 0 ? Integer.valueOf(n) : what == 1 ? sheets[n] : null;
        return 1;
    }

    /** What a SHELF holds: a PERSON's thing, a row, or null. */
    Object thingOn(int shelf) {
        if (!(shelves[shelf] instanceof Integer p)) {
            return shelves[shelf];
        }
        if (!isPerson(p)) {
            return null;
        }
        P thing = switch (w.people.get(p).kind) {
            case 1 -> new Maid();
            case 2 -> new Miser();
            case 3 -> new Widow();
            case 4 -> new Prince();
            default -> new Beast();
        };
        thing.n = p;
        thing.a = w.people.get(p).needs;
        thing.trace = trace;
        return thing;
    }

    int taken(int shelf, int as) {
        if (!in(shelf, 0, 3) || !in(as, 0, 5) && !in(as, 10, 14)) {
            return BAD;
        }
        Object o = thingOn(shelf);
        try {
            return switch (as) {
                case 0 -> ((P) o).n;
                case 1 -> ((Maid) o).n;
                case 2 -> ((Miser) o).n;
                case 3 -> ((Widow) o).n;
                case 4 -> ((Prince) o).n;
                case 5 -> ((Beast) o).n;
                case 10 -> ((byte[]) o).length;
                case 11 -> ((short[]) o).length;
                case 12 -> ((int[]) o).length;
                case 13 -> ((long[]) o).length;
                default -> ((boolean[]) o).length;
            };
        } catch (NullPointerException | ClassCastException e) {
            return refused(e);
        }
    }

    int act(int shelf, int act, int x) {
        trace.clear();
        if (!in(shelf, 0, 3) || !in(act, 0, 3) || !(thingOn(shelf) instanceof P thing)) {
            return 0;
        }
        try {
            return switch (act) {
                case 0 -> thing.gives(x);
                case 1 -> thing.takes(x);
                case 2 -> thing.halves(x);
                default -> thing.owes(x);
            };
        } catch (ArithmeticException e) {
            return refused(e);
        }
    }

    int trace(int i) {
        return in(i, 0, Math.min(30, trace.size()) - 1) ? trace.get(i) : NONE;
    }

    int many(int what) {
        int[] all = {
            w.people.size(), w.rules.size(), w.ledger.size(), w.reports.size(), rows.size(), tape.length(),
            Math.min(30, trace.size())
        };
        return in(what, 0, 6) ? all[what] : BAD;
    }

    int keep() {
        kept = w.copy();
        return 1;
    }

    int again() {
        if (kept == null) {
            return NONE;
        }
        w = kept.copy();
        return w.people.size();
    }
}
