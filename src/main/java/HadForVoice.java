import java.util.Arrays;

/**
 * A witch changes anything for anything, at a rate: people of kinds, things with worths and jars, the changes among
 * them, and what can be asked about these. shared/DOC.md tells what each call answers.
 */
public final class HadForVoice {
    public static final int BAD = -1, FULL = -2, NONE = -3, STATE = -4;

    private static final int NO_ROW = -9;
    private static final int NOTHING = -11;
    private static final int OUTSIDE = -12;
    private static final int OTHER_SORT = -13;
    private static final int SIZE_BELOW_0 = -14;
    private static final int PARTED_BY_0 = -15;

    private static final int PEOPLE = 6;
    private static final int THINGS = 8;
    private static final int WITCH = 9;
    private static final int PERSON = 0;
    private static final int MAID = 1;
    private static final int MISER = 2;
    private static final int WIDOW = 3;
    private static final int PRINCE = 4;
    private static final int BEAST = 5;

    private static final int MOST_COINS = 999;
    private static final int MOST_WORTH = 99;
    private static final int MOST_TOLD_IN_JAR = 9;
    private static final int JAR_IS_FULL = 99;
    private static final int MOST_FEE = 50;
    private static final int MOST_TIMES = 3;
    private static final int LEDGER = 12;
    private static final int REPORTS = 6;
    private static final int TAPE = 200;
    private static final int MOST_RULES = 8;
    private static final int MOST_RUNS = 60;
    private static final int MOST_BARTERS = 4;
    private static final int SHEETS = 4;
    private static final int MOST_ITEMS = 40;
    private static final int MOST_ITEMS_AT_ONCE = 20;

    /** Every number that a CHANGE can have, in the order in which ROWS are compared. */
    private static final int[] CHANGES = {
        1, 2, 3, 4, 5, 9, 12, 13, 14, 15, 19, 23, 24, 25, 29, 34, 35, 39, 45, 49, 59
    };

    /** Of each KIND the one that stands next above it. */
    private static final int[] ABOVE = {PERSON, PERSON, PERSON, MISER, PERSON, PRINCE};

    private final Host host;
    private final Town now;
    private final Town kept;
    private boolean isKept;
    private final Town tried;
    private final Search search;
    private final RuleText text;
    private final int[][] rows;
    private int rowCount;

    public HadForVoice() {
        host = new Host();
        Person[] kinds = {
            new Person(host), new Maid(host), new Miser(host), new Widow(host), new Prince(host), new Beast(host)
        };
        now = new Town(kinds);
        kept = new Town(kinds);
        tried = new Town(kinds);
        search = new Search(tried);
        text = new RuleText();
        rows = new int[PEOPLE][3];
    }

    // ---- people, things

    public int person(int kind, int has, int needs, int coins) {
        if (!isIn(kind, MAID, BEAST) || !isThing(has) || !isThing(needs) || !isIn(coins, 0, MOST_COINS)) {
            return BAD;
        }
        if (now.people >= PEOPLE) {
            return FULL;
        }
        int p = now.people;
        now.people++;
        now.kind[p] = kind;
        now.has[p] = has;
        now.needs[p] = needs;
        now.coins[p] = coins;
        now.meets[p] = 0;
        now.mark(p);
        return p;
    }

    public int personOf(int p, int what) {
        if (!now.isPerson(p)) {
            return BAD;
        }
        switch (what) {
            case 0: return now.kind[p];
            case 1: return now.has[p];
            case 2: return now.needs[p];
            case 3: return now.coins[p];
            case 4: return now.asks(p);
            case 5: return now.whole >> p & 1;
            case 6: return now.meets[p];
            default: return BAD;
        }
    }

    public int change(int p, int what, int v) {
        if (!now.isPerson(p) || !isIn(what, 1, 3) || !isIn(v, 0, what == 3 ? MOST_COINS : THINGS - 1)) {
            return BAD;
        }
        int[] all = what == 1 ? now.has : what == 2 ? now.needs : now.coins;
        int was = all[p];
        all[p] = v;
        now.mark(p);
        return was;
    }

    public int remake(int p, int kind) {
        if (!now.isPerson(p) || !isIn(kind, MAID, BEAST)) {
            return BAD;
        }
        int was = now.kind[p];
        now.kind[p] = kind;
        return was;
    }

    public int meets(int p, int q, boolean is) {
        if (!now.isPerson(p) || !now.isPerson(q) || p == q) {
            return BAD;
        }
        int did = now.meets[p] >> q & 1;
        if (is) {
            now.meets[p] |= 1 << q;
            now.meets[q] |= 1 << p;
        } else {
            now.meets[p] &= ~(1 << q);
            now.meets[q] &= ~(1 << p);
        }
        return did;
    }

    public int worth(int thing, int v) {
        if (!isThing(thing) || !isIn(v, 0, MOST_WORTH)) {
            return BAD;
        }
        int was = now.worth[thing];
        now.worth[thing] = v;
        return was;
    }

    public int jar(int thing, int n) {
        if (!isThing(thing) || !isIn(n, 0, MOST_TOLD_IN_JAR)) {
            return BAD;
        }
        int was = now.jar[thing];
        now.jar[thing] = n;
        return was;
    }

    public int fee(int v) {
        if (!isIn(v, 0, MOST_FEE)) {
            return BAD;
        }
        int was = now.fee;
        now.fee = v;
        return was;
    }

    public int thing(int thing, int what) {
        if (!isThing(thing)) {
            return BAD;
        }
        switch (what) {
            case 0: return now.worth[thing];
            case 1: return now.jar[thing];
            case 2: return now.thoseWith(now.has, thing);
            case 3: return now.thoseWith(now.needs, thing);
            default: return BAD;
        }
    }

    public int state(int what) {
        switch (what) {
            case 0: return now.whole;
            case 1: return now.coinsOfAll();
            case 2: return now.fee;
            case 3: return now.made;
            default: return BAD;
        }
    }

    // ---- the rules

    public int feed(long eight, int n) {
        if (!isIn(n, 1, 8)) {
            return BAD;
        }
        if (text.size + n > TAPE) {
            return FULL;
        }
        for (int k = 0; k < n; k++) {
            text.tape[text.size] = (int) (eight >>> 8 * k) & 255;
            text.size++;
        }
        return text.size;
    }

    public int rules() {
        int fault = text.read();
        if (fault >= 0) {
            return -100 - fault;
        }
        now.rules.copyFrom(text.told);
        return now.rules.count;
    }

    // ---- changes

    public int cans(int from) {
        if (from < -1) {
            return BAD;
        }
        for (int c : CHANGES) {
            if (c > from && now.canBe(c)) {
                return c;
            }
        }
        return NONE;
    }

    public int make(int p, int q) {
        if (!now.isPerson(p) || (q != WITCH && (q <= p || !now.isPerson(q)))) {
            return BAD;
        }
        int c = 10 * p + q;
        return now.canBe(c) ? now.enter(c) : STATE;
    }

    public int back() {
        return now.takeBack();
    }

    public int fewest() {
        return search.first(now, Search.SHORTEST, PEOPLE);
    }

    public int ith(int i) {
        if (!isIn(i, 0, PEOPLE - 1)) {
            return BAD;
        }
        return i < search.first(now, Search.SHORTEST, PEOPLE) ? search.row[i] : NONE;
    }

    public int ways(int n) {
        return isIn(n, 0, PEOPLE) ? search.told(now, Search.WAYS, n) : BAD;
    }

    public int most(int n) {
        return isIn(n, 0, PEOPLE) ? search.told(now, Search.MOST, n) : BAD;
    }

    public int cheapest(int n) {
        if (!isIn(n, 0, PEOPLE)) {
            return BAD;
        }
        int cost = search.told(now, Search.CHEAPEST, n);
        return cost < Search.NEVER ? cost : NONE;
    }

    public int cheaply(int n, int i) {
        if (!isIn(n, 0, PEOPLE) || !isIn(i, 0, PEOPLE - 1)) {
            return BAD;
        }
        return i < search.first(now, Search.CHEAPEST, n) ? search.row[i] : NONE;
    }

    public int bars() {
        return search.whoBars(now);
    }

    public int jars() {
        return search.whichJar(now);
    }

    public int feeFor(int n) {
        return isIn(n, 1, PEOPLE) ? search.greatestFee(now, n) : BAD;
    }

    // ---- rings, barter

    public int rings(int k) {
        return isIn(k, 2, PEOPLE) ? search.ringsOf(now, k) : BAD;
    }

    public int ring(int k, int i) {
        if (!isIn(k, 2, PEOPLE) || !isIn(i, 0, k - 1)) {
            return BAD;
        }
        return search.ringsOf(now, k) > 0 ? search.row[i] : NONE;
    }

    public int comes(int p, int n) {
        return now.isPerson(p) && isIn(n, 0, MOST_BARTERS) ? search.bartered(now, p, n) : BAD;
    }

    public int dearest(int p, int n) {
        if (!now.isPerson(p) || !isIn(n, 0, MOST_BARTERS)) {
            return BAD;
        }
        int things = search.bartered(now, p, n);
        int best = now.has[p];
        for (int t = THINGS - 1; t >= 0; t--) {
            if ((things >> t & 1) == 1 && now.worth[t] >= now.worth[best]) {
                best = t;
            }
        }
        return best;
    }

    // ---- a game, reports, lots

    public int game(int n) {
        if (!isIn(n, 1, PEOPLE)) {
            return BAD;
        }
        int value = search.told(now, Search.GAME, n);
        return value > 0 ? 0 : value < 0 ? 1 : 2;
    }

    public int play(int n) {
        if (!isIn(n, 1, PEOPLE)) {
            return BAD;
        }
        return search.first(now, Search.GAME, n) > 0 ? search.row[0] : NONE;
    }

    public int report(int given, int got, int asked) {
        if (!isIn(given, 0, MOST_WORTH) || !isIn(got, 0, MOST_WORTH) || !isIn(asked, 0, MOST_COINS)) {
            return BAD;
        }
        if (now.reports >= REPORTS) {
            return FULL;
        }
        int[] report = now.report[now.reports];
        report[0] = given;
        report[1] = got;
        report[2] = asked;
        now.reports++;
        return now.reports - 1;
    }

    public int forget() {
        int were = now.reports;
        now.reports = 0;
        return were;
    }

    public int span(int what) {
        if (!isIn(what, 0, 2)) {
            return BAD;
        }
        if (what == 0) {
            return now.lawsThatFit();
        }
        int law = now.firstLaw(NONE);
        if (law < 0) {
            return NONE;
        }
        return what == 1 ? law / (MOST_FEE + 1) : law % (MOST_FEE + 1);
    }

    public int liar() {
        if (now.firstLaw(NONE) >= 0) {
            return NONE;
        }
        for (int k = 0; k < now.reports; k++) {
            if (now.firstLaw(k) >= 0) {
                return k;
            }
        }
        return NONE;
    }

    public int seed(int v) {
        int was = now.z;
        now.z = v;
        return was;
    }

    public int draw() {
        return now.drawn();
    }

    public int often(int n) {
        if (!isIn(n, 1, MOST_RUNS)) {
            return BAD;
        }
        tried.copyFrom(now);
        int often = 0;
        for (int run = 0; run < n; run++) {
            tried.copyPlayFrom(now);
            tried.runOut();
            if (tried.isDone()) {
                often++;
            }
        }
        return often;
    }

    // ---- rows

    public int prove() {
        int length = search.first(now, Search.SHORTEST, PEOPLE);
        if (length < 0) {
            return NONE;
        }
        tried.copyPlayFrom(now);
        rowCount = length;
        for (int k = 0; k < length; k++) {
            tried.step(search.row[k]);
            rows[k][0] = search.row[k];
            rows[k][1] = tried.coinsOfAll();
            rows[k][2] = tried.whole;
        }
        return length;
    }

    public int row(int k, int what) {
        return isIn(k, 0, rowCount - 1) && isIn(what, 0, 2) ? rows[k][what] : NO_ROW;
    }

    public int alterRow(int k, int what, int v) {
        if (!isIn(k, 0, rowCount - 1) || !isIn(what, 0, 2)) {
            return NO_ROW;
        }
        int was = rows[k][what];
        rows[k][what] = v;
        return was;
    }

    public int judge() {
        tried.copyPlayFrom(now);
        for (int k = 0; k < rowCount; k++) {
            if (!tried.canBe(rows[k][0])) {
                return k + 1;
            }
            tried.step(rows[k][0]);
            boolean isAsTold = rows[k][1] == tried.coinsOfAll() && rows[k][2] == tried.whole;
            if (!isAsTold || (k == rowCount - 1 && !tried.isDone())) {
                return k + 1;
            }
        }
        return 0;
    }

    // ---- the host

    public int sheet(int sheet, int sort, int n) {
        if (!isSheet(sheet) || !isIn(sort, Host.MISSING, Host.BOOLEANS)) {
            return BAD;
        }
        int size = sort == Host.MISSING ? 0 : n;
        if (size > MOST_ITEMS) {
            return BAD;
        }
        if (size < 0) {
            return SIZE_BELOW_0;
        }
        host.sort[sheet] = sort;
        host.size[sheet] = size;
        Arrays.fill(host.items[sheet], 0);
        return 1;
    }

    public int write(int sheet, int i, int v) {
        if (!isSheet(sheet)) {
            return BAD;
        }
        if (host.sort[sheet] == Host.MISSING) {
            return NOTHING;
        }
        if (!host.isPlace(sheet, i)) {
            return OUTSIDE;
        }
        host.items[sheet][i] = host.narrowed(host.sort[sheet], v);
        return 1;
    }

    public int item(int sheet, int sort, int i) {
        if (!isSheet(sheet) || !isIn(sort, Host.BYTES, Host.BOOLEANS)) {
            return BAD;
        }
        int refusal = host.refusal(sheet, sort);
        if (refusal != 0) {
            return refusal;
        }
        return host.isPlace(sheet, i) ? host.items[sheet][i] : OUTSIDE;
    }

    public int makeAll(int sheet, int i, int n) {
        if (!isSheet(sheet) || !isIn(n, 0, MOST_ITEMS_AT_ONCE)) {
            return BAD;
        }
        int refusal = host.refusal(sheet, Host.BYTES);
        if (refusal != 0) {
            return refusal;
        }
        int were = 0;
        for (int k = 0; k < n; k++) {
            if (!host.isPlace(sheet, i + k)) {
                return OUTSIDE;
            }
            int c = host.items[sheet][i + k];
            if (now.canBe(c)) {
                now.enter(c);
                were++;
            }
        }
        return were;
    }

    public int wouldCost(int sheet, int i, int n) {
        if (!isSheet(sheet) || !isIn(n, 0, MOST_ITEMS_AT_ONCE)) {
            return BAD;
        }
        int refusal = host.refusal(sheet, Host.BYTES);
        if (refusal != 0) {
            return refusal;
        }
        tried.copyPlayFrom(now);
        int cost = 0;
        for (int k = 0; k < n; k++) {
            if (!host.isPlace(sheet, i + k)) {
                return OUTSIDE;
            }
            int c = host.items[sheet][i + k];
            if (!tried.canBe(c)) {
                return STATE;
            }
            cost += tried.step(c);
        }
        return cost;
    }

    public int shelf(int shelf, int what, int n) {
        if (!isSheet(shelf)) {
            return BAD;
        }
        switch (what) {
            case 0: return now.isPerson(n) ? host.hold(shelf, Host.A_PERSON, n, 0) : BAD;
            case 1: return isSheet(n) ? host.holdRow(shelf, n) : BAD;
            case 2: return host.hold(shelf, Host.NOTHING_HELD, 0, 0);
            default: return BAD;
        }
    }

    public int taken(int shelf, int as) {
        boolean asRow = isIn(as, 10 + Host.BYTES, 10 + Host.BOOLEANS);
        if (!isSheet(shelf) || !(asRow || isIn(as, PERSON, BEAST))) {
            return BAD;
        }
        if (host.holds[shelf] == Host.A_ROW) {
            return asRow && host.held[shelf] == as - 10 ? host.heldSize[shelf] : OTHER_SORT;
        }
        int p = personOn(shelf);
        if (p < 0) {
            return NOTHING;
        }
        return !asRow && isUnder(now.kind[p], as) ? p : OTHER_SORT;
    }

    public int act(int shelf, int act, int x) {
        host.startTrace();
        int p = personOn(shelf);
        if (p < 0 || !isIn(act, 0, 3)) {
            return 0;
        }
        Person body = now.kinds[now.kind[p]];
        body.n = p;
        body.a = now.needs[p];
        int answer;
        switch (act) {
            case 0: answer = body.gives(x); break;
            case 1: answer = body.takes(x); break;
            case 2: answer = body.halves(x); break;
            default: answer = body.owes(x); break;
        }
        return host.isParted ? PARTED_BY_0 : answer;
    }

    /** The PERSON that a SHELF holds: below 0 if there is none such now, or no such SHELF. */
    private int personOn(int shelf) {
        if (!isSheet(shelf) || host.holds[shelf] != Host.A_PERSON || !now.isPerson(host.held[shelf])) {
            return NONE;
        }
        return host.held[shelf];
    }

    public int trace(int i) {
        return isIn(i, 0, host.bodies - 1) ? host.body[i] : NONE;
    }

    public int many(int what) {
        switch (what) {
            case 0: return now.people;
            case 1: return now.rules.count;
            case 2: return now.made;
            case 3: return now.reports;
            case 4: return rowCount;
            case 5: return text.size;
            case 6: return host.bodies;
            default: return BAD;
        }
    }

    // ---- kept

    public int keep() {
        kept.copyFrom(now);
        isKept = true;
        return 1;
    }

    public int again() {
        if (!isKept) {
            return NONE;
        }
        now.copyFrom(kept);
        return now.people;
    }

    private static boolean isIn(int v, int least, int most) {
        return v >= least && v <= most;
    }

    private static boolean isThing(int t) {
        return isIn(t, 0, THINGS - 1);
    }

    /** SHEETS and SHELVES have the same numbers. */
    private static boolean isSheet(int s) {
        return isIn(s, 0, SHEETS - 1);
    }

    private static boolean isUnder(int kind, int above) {
        return above == PERSON || kind == above || ABOVE[kind] == above;
    }

    /** What a thing of a KIND does; there is one for each KIND, and an act lends it the number and the need. */
    private static class Person {
        final Host host;
        int n;
        int a;

        Person(Host host) {
            this.host = host;
        }

        int isAsked(int price, int coins, boolean nobodyIsWhole) {
            return price;
        }

        int gives(int x) {
            host.began(10);
            return x + a;
        }

        int takes(int x) {
            host.began(11);
            return gives(x) - n;
        }

        int halves(int x) {
            host.began(12);
            if (a == n) {
                host.isParted = true;
                return 0;
            }
            return x / (a - n);
        }

        int owes(int x) {
            host.began(13);
            return takes(x) ^ a;
        }
    }

    private static final class Maid extends Person {
        Maid(Host host) {
            super(host);
        }

        int gives(int x) {
            host.began(20);
            return super.gives(x) * 2;
        }
    }

    private static class Miser extends Person {
        Miser(Host host) {
            super(host);
        }

        int isAsked(int price, int coins, boolean nobodyIsWhole) {
            int tenth = coins / 10;
            return price > tenth ? price - tenth : 0;
        }

        int takes(int x) {
            host.began(30);
            return super.takes(x) ^ n;
        }
    }

    private static final class Widow extends Miser {
        Widow(Host host) {
            super(host);
        }

        int isAsked(int price, int coins, boolean nobodyIsWhole) {
            int asMiser = super.isAsked(price, coins, nobodyIsWhole);
            return nobodyIsWhole ? asMiser / 2 : asMiser;
        }

        int gives(int x) {
            host.began(50);
            return super.gives(x) - 1;
        }

        int owes(int x) {
            host.began(51);
            return super.owes(x) + halves(a);
        }
    }

    private static class Prince extends Person {
        Prince(Host host) {
            super(host);
        }

        int isAsked(int price, int coins, boolean nobodyIsWhole) {
            return 2 * price;
        }

        int halves(int x) {
            host.began(40);
            return super.halves(x - 3);
        }
    }

    private static final class Beast extends Prince {
        Beast(Host host) {
            super(host);
        }

        int isAsked(int price, int coins, boolean nobodyIsWhole) {
            int asPrince = super.isAsked(price, coins, nobodyIsWhole);
            return asPrince > 7 ? asPrince - 7 : 0;
        }

        int takes(int x) {
            host.began(60);
            return 0 - super.takes(x);
        }

        int halves(int x) {
            host.began(61);
            return super.halves(x) - gives(n);
        }
    }

    /** All that keep() keeps: people, things, THE RULES, THE LEDGER, REPORTS and z. */
    private static final class Town {
        final Person[] kinds;
        final Rules rules = new Rules();
        int people;
        final int[] kind = new int[PEOPLE];
        final int[] has = new int[PEOPLE];
        final int[] needs = new int[PEOPLE];
        final int[] coins = new int[PEOPLE];
        final int[] meets = new int[PEOPLE];
        /** Kept beside what they HAVE and NEED, since a search asks for it at every step. */
        int whole;
        /** PEOPLE to be taken as not there, so not as WHOLE either; only a search for who bars it sets them. */
        int out;
        final int[] worth = new int[THINGS];
        final int[] jar = new int[THINGS];
        int fee;
        int z = 1;
        int made;
        /** Of each CHANGE its number, what its PERSON gave and what it got. */
        final int[][] ledger = new int[LEDGER][3];
        int reports;
        /** Of each REPORT the WORTH given, the one got, and what was asked. */
        final int[][] report = new int[REPORTS][3];

        Town(Person[] kinds) {
            this.kinds = kinds;
        }

        void copyFrom(Town other) {
            copyPlayFrom(other);
            z = other.z;
            made = other.made;
            copyRows(other.ledger, ledger);
            reports = other.reports;
            copyRows(other.report, report);
        }

        /** What a CHANGE looks at, without THE LEDGER, REPORTS and z, which RUNS and searches leave as they are. */
        void copyPlayFrom(Town other) {
            rules.copyFrom(other.rules);
            people = other.people;
            System.arraycopy(other.kind, 0, kind, 0, PEOPLE);
            System.arraycopy(other.has, 0, has, 0, PEOPLE);
            System.arraycopy(other.needs, 0, needs, 0, PEOPLE);
            System.arraycopy(other.coins, 0, coins, 0, PEOPLE);
            System.arraycopy(other.meets, 0, meets, 0, PEOPLE);
            whole = other.whole;
            out = other.out;
            System.arraycopy(other.worth, 0, worth, 0, THINGS);
            System.arraycopy(other.jar, 0, jar, 0, THINGS);
            fee = other.fee;
        }

        private static void copyRows(int[][] from, int[][] to) {
            for (int k = 0; k < from.length && k < to.length; k++) {
                System.arraycopy(from[k], 0, to[k], 0, 3);
            }
        }

        boolean isPerson(int p) {
            return p >= 0 && p < people;
        }

        void mark(int p) {
            if (has[p] == needs[p]) {
                whole |= 1 << p;
            } else {
                whole &= ~(1 << p);
            }
        }

        boolean isDone() {
            return (whole | out) == (1 << people) - 1;
        }

        int coinsOfAll() {
            int sum = 0;
            for (int p = 0; p < people; p++) {
                sum += coins[p];
            }
            return sum;
        }

        /** PEOPLE of whom all[p] is that THING, as a set. */
        int thoseWith(int[] all, int thing) {
            int set = 0;
            for (int p = 0; p < people; p++) {
                if (all[p] == thing) {
                    set |= 1 << p;
                }
            }
            return set;
        }

        int asks(int p) {
            int had = worth[has[p]];
            int needed = worth[needs[p]];
            int price = needed > had ? needed - had + fee : fee;
            int wholeHere = whole & ~out;
            if (rules.count > 0) {
                rules.look(had, needed, coins[p], Integer.bitCount(wholeHere), p);
                price = rules.changed(price, kind[p]);
            }
            return kinds[kind[p]].isAsked(price, coins[p], wholeHere == 0);
        }

        /** Whether that is the number of a CHANGE, and it CAN BE; any int may be asked for. */
        boolean canBe(int c) {
            if (c < 0) {
                return false;
            }
            int p = c / 10;
            int q = c % 10;
            if (!isFree(p)) {
                return false;
            }
            if (q == WITCH) {
                return jar[needs[p]] > 0 && jar[has[p]] < JAR_IS_FULL && coins[p] >= asks(p);
            }
            return q > p && isFree(q) && (meets[p] >> q & 1) == 1 && (needs[p] == has[q] || needs[q] == has[p]);
        }

        /** There, not WHOLE, and not left out. */
        private boolean isFree(int p) {
            return isPerson(p) && ((whole | out) >> p & 1) == 0;
        }

        /** Makes a CHANGE that CAN BE, without THE LEDGER: COINS paid. */
        int step(int c) {
            int p = c / 10;
            int q = c % 10;
            if (q != WITCH) {
                swap(p, q);
                return 0;
            }
            int paid = asks(p);
            coins[p] -= paid;
            jar[has[p]]++;
            jar[needs[p]]--;
            has[p] = needs[p];
            mark(p);
            return paid;
        }

        /** The other way round: a CHANGE by which its PERSON gave that THING. */
        void stepBack(int c, int gave, int paid) {
            int p = c / 10;
            int q = c % 10;
            if (q != WITCH) {
                swap(p, q);
                return;
            }
            coins[p] += paid;
            jar[has[p]]++;
            jar[gave]--;
            has[p] = gave;
            mark(p);
        }

        void swap(int p, int q) {
            int had = has[p];
            has[p] = has[q];
            has[q] = had;
            mark(p);
            mark(q);
        }

        /** Makes a CHANGE that CAN BE, and writes it into THE LEDGER: COINS paid. */
        int enter(int c) {
            if (made >= LEDGER) {
                for (int k = 1; k < LEDGER; k++) {
                    System.arraycopy(ledger[k], 0, ledger[k - 1], 0, 3);
                }
                made = LEDGER - 1;
            }
            int p = c / 10;
            int[] entry = ledger[made];
            made++;
            entry[0] = c;
            entry[1] = has[p];
            int paid = step(c);
            entry[2] = has[p];
            return paid;
        }

        int takeBack() {
            if (made <= 0) {
                return NONE;
            }
            int[] entry = ledger[made - 1];
            int c = entry[0];
            int p = c / 10;
            int q = c % 10;
            int gave = entry[1];
            int got = entry[2];
            if (has[p] != got) {
                return STATE;
            }
            boolean canGoBack = q == WITCH ? jar[gave] > 0 && jar[got] < JAR_IS_FULL : has[q] == gave;
            if (!canGoBack) {
                return STATE;
            }
            stepBack(c, gave, 0);
            made--;
            return c;
        }

        int drawn() {
            int many = 0;
            for (int c : CHANGES) {
                if (canBe(c)) {
                    many++;
                }
            }
            if (many == 0) {
                return NONE;
            }
            z = z * 1103515245 + 12345;
            int left = (z >>> 16) % many;
            for (int c : CHANGES) {
                if (canBe(c)) {
                    if (left == 0) {
                        enter(c);
                        return c;
                    }
                    left--;
                }
            }
            return NONE;
        }

        /** DRAWN again and again; each makes one more WHOLE at least, so there are no more of them than PEOPLE. */
        void runOut() {
            int left = PEOPLE;
            while (left > 0 && drawn() >= 0) {
                left--;
            }
        }

        int lawsThatFit() {
            int fit = 0;
            for (int times = 0; times <= MOST_TIMES; times++) {
                for (int lawFee = 0; lawFee <= MOST_FEE; lawFee++) {
                    if (fits(times, lawFee, NONE)) {
                        fit++;
                    }
                }
            }
            return fit;
        }

        /** The first LAW that FITS, without REPORT but: TIMES * 51 + FEE. */
        int firstLaw(int but) {
            for (int times = 0; times <= MOST_TIMES; times++) {
                for (int lawFee = 0; lawFee <= MOST_FEE; lawFee++) {
                    if (fits(times, lawFee, but)) {
                        return times * (MOST_FEE + 1) + lawFee;
                    }
                }
            }
            return NONE;
        }

        private boolean fits(int times, int lawFee, int but) {
            for (int k = 0; k < reports; k++) {
                int more = Math.max(0, report[k][1] - report[k][0]);
                if (k != but && times * more + lawFee != report[k][2]) {
                    return false;
                }
            }
            return true;
        }
    }

    /** THE RULES as they were told: of each its KIND, what it does, and where its condition ends in the code. */
    private static final class Rules {
        static final int AND = -1;
        static final int OR = -2;
        static final int NOT = -3;
        /** Numbers stand for themselves below this, and FACTS by it and their place in facts. */
        static final int FACTS = 10000;
        static final int LESS_THAN = 0;
        static final int SAME = 1;

        int count;
        final int[] kind = new int[MOST_RULES];
        final int[] deed = new int[MOST_RULES];
        final int[] amount = new int[MOST_RULES];
        final int[] end = new int[MOST_RULES];
        int length;
        /**
         * Conditions, each sign behind what it joins; a comparison is one item, its sign above two values of 14 bits.
         * Every item stands for more than a byte of text.
         */
        final int[] code = new int[TAPE];
        final int[] facts = new int[5];

        void copyFrom(Rules other) {
            count = other.count;
            length = other.length;
            System.arraycopy(other.kind, 0, kind, 0, count);
            System.arraycopy(other.deed, 0, deed, 0, count);
            System.arraycopy(other.amount, 0, amount, 0, count);
            System.arraycopy(other.end, 0, end, 0, count);
            System.arraycopy(other.code, 0, code, 0, length);
        }

        void clear() {
            count = 0;
            length = 0;
        }

        void add(int item) {
            if (length < code.length) {
                code[length] = item;
                length++;
            }
        }

        void close(int itsKind, int itsDeed, int itsAmount) {
            if (count < MOST_RULES) {
                kind[count] = itsKind;
                deed[count] = itsDeed;
                amount[count] = itsAmount;
                end[count] = length;
                count++;
            }
        }

        void look(int had, int needed, int coins, int whole, int number) {
            facts[0] = had;
            facts[1] = needed;
            facts[2] = coins;
            facts[3] = whole;
            facts[4] = number;
        }

        /** The price as the first RULE changes it that is for that KIND and holds, by the FACTS last looked at. */
        int changed(int price, int itsKind) {
            int from = 0;
            for (int k = 0; k < count; k++) {
                if (isUnder(itsKind, kind[k]) && holds(from, end[k])) {
                    switch (deed[k]) {
                        case RuleText.MORE: return price + amount[k];
                        case RuleText.LESS: return price > amount[k] ? price - amount[k] : 0;
                        default: return 0;
                    }
                }
                from = end[k];
            }
            return price;
        }

        /** The bits of open are what still waits to be joined, the latest lowest; without a condition it's the 1. */
        private boolean holds(int from, int to) {
            int open = 1;
            for (int k = from; k < to; k++) {
                int item = code[k];
                if (item == NOT) {
                    open ^= 1;
                } else if (item == AND) {
                    open = open >> 1 & (open | ~1);
                } else if (item == OR) {
                    open = open >> 1 | open & 1;
                } else {
                    int left = item >> 14 & 16383;
                    int right = item & 16383;
                    int a = left < FACTS ? left : facts[left - FACTS];
                    int b = right < FACTS ? right : facts[right - FACTS];
                    int sign = item >> 28;
                    boolean is = sign == LESS_THAN ? a < b : sign == SAME ? a == b : a > b;
                    open = open << 1 | (is ? 1 : 0);
                }
            }
            return (open & 1) == 1;
        }
    }

    /** THE TAPE and its reader. A token is one int: a NUMBER itself, or a name's, a byte's or the end's code. */
    private static final class RuleText {
        static final int KINDS = Rules.FACTS + 5;
        static final int IF = KINDS + 6;
        static final int MORE = IF + 1;
        static final int LESS = IF + 2;
        static final int FREE = IF + 3;
        static final int OR = IF + 4;
        static final int AND = IF + 5;
        static final int NOT = IF + 6;
        static final int WORDS = IF + 7;
        static final int BYTES = 20000;
        static final int END = 30000;
        static final int UNKNOWN = 30001;
        static final int MOST_DIGITS = 4;
        static final int MOST_OPEN = 3;

        final int[] tape = new int[TAPE];
        int size;
        final int[] token = new int[TAPE + 1];
        final int[] start = new int[TAPE + 1];
        int at;
        final Rules told = new Rules();

        /** Uses THE TAPE up: the FAULT, or below 0 if there is none; told is what it told. */
        int read() {
            cut();
            size = 0;
            at = 0;
            told.clear();
            boolean isRight = true;
            for (int k = 0; k < MOST_RULES && isRight && token[at] != END; k++) {
                isRight = readRule();
            }
            return isRight && token[at] == END ? NONE : start[at];
        }

        private void cut() {
            int count = 0;
            int place = 0;
            for (int k = 0; k < TAPE && place < size; k++) {
                int end = endOf(place);
                if (tape[place] != ' ') {
                    token[count] = codeOf(place, end);
                    start[count] = place;
                    count++;
                }
                place = end;
            }
            token[count] = END;
            start[count] = size;
        }

        private int endOf(int place) {
            int end = place + 1;
            if (isLetter(tape[place])) {
                while (end < size && isLetter(tape[end])) {
                    end++;
                }
            } else if (isDigit(tape[place])) {
                while (end < size && isDigit(tape[end])) {
                    end++;
                }
            }
            return end;
        }

        private int codeOf(int place, int end) {
            if (isLetter(tape[place])) {
                for (int word = Rules.FACTS; word < WORDS; word++) {
                    if (isSame(wordOf(word), place, end)) {
                        return word;
                    }
                }
                return UNKNOWN;
            }
            if (!isDigit(tape[place])) {
                return BYTES + tape[place];
            }
            if (end - place > MOST_DIGITS) {
                return UNKNOWN;
            }
            int number = 0;
            for (int k = place; k < end; k++) {
                number = number * 10 + tape[k] - '0';
            }
            return number;
        }

        private boolean isSame(String word, int place, int end) {
            if (word.length() != end - place) {
                return false;
            }
            for (int k = place; k < end; k++) {
                if (word.charAt(k - place) != tape[k]) {
                    return false;
                }
            }
            return true;
        }

        private static boolean isLetter(int b) {
            return b >= 'a' && b <= 'z';
        }

        private static boolean isDigit(int b) {
            return b >= '0' && b <= '9';
        }

        /** FACTS come in the order of Rules.facts, KINDS in that of their numbers. */
        private static String wordOf(int word) {
            switch (word) {
                case Rules.FACTS: return "has";
                case Rules.FACTS + 1: return "need";
                case Rules.FACTS + 2: return "coins";
                case Rules.FACTS + 3: return "whole";
                case Rules.FACTS + 4: return "number";
                case KINDS + PERSON: return "person";
                case KINDS + MAID: return "maid";
                case KINDS + MISER: return "miser";
                case KINDS + WIDOW: return "widow";
                case KINDS + PRINCE: return "prince";
                case KINDS + BEAST: return "beast";
                case IF: return "if";
                case MORE: return "more";
                case LESS: return "less";
                case FREE: return "free";
                case OR: return "or";
                case AND: return "and";
                case NOT: return "not";
                default: return "";
            }
        }

        // Each of these reads on from token[at]; where it answers false, that is the one that can't stand there.

        private boolean readRule() {
            int kind = token[at] - KINDS;
            if (!isIn(kind, PERSON, BEAST)) {
                return false;
            }
            at++;
            if (token[at] == IF) {
                at++;
                if (!readCondition(0)) {
                    return false;
                }
            }
            int deed = token[at];
            if (deed != MORE && deed != LESS && deed != FREE) {
                return false;
            }
            at++;
            int amount = 0;
            if (deed != FREE) {
                amount = token[at];
                if (!isIn(amount, 0, 99)) {
                    return false;
                }
                at++;
            }
            if (token[at] != BYTES + ';') {
                return false;
            }
            at++;
            told.close(kind, deed, amount);
            return true;
        }

        private boolean readCondition(int open) {
            boolean isRight = readAll(open);
            for (int k = 0; k < TAPE && isRight && token[at] == OR; k++) {
                at++;
                isRight = readAll(open);
                told.add(Rules.OR);
            }
            return isRight;
        }

        private boolean readAll(int open) {
            boolean isRight = readOne(open);
            for (int k = 0; k < TAPE && isRight && token[at] == AND; k++) {
                at++;
                isRight = readOne(open);
                told.add(Rules.AND);
            }
            return isRight;
        }

        private boolean readOne(int open) {
            boolean isNot = false;
            for (int k = 0; k < TAPE && token[at] == NOT; k++) {
                at++;
                isNot = !isNot;
            }
            boolean isRight = token[at] == BYTES + '(' ? readInner(open) : readComparison();
            if (isNot) {
                told.add(Rules.NOT);
            }
            return isRight;
        }

        private boolean readInner(int open) {
            if (open >= MOST_OPEN) {
                return false;
            }
            at++;
            if (!readCondition(open + 1) || token[at] != BYTES + ')') {
                return false;
            }
            at++;
            return true;
        }

        private boolean readComparison() {
            int left = token[at];
            if (!isValue(left)) {
                return false;
            }
            at++;
            int sign = token[at] - (BYTES + '<');
            if (!isIn(sign, 0, 2)) {
                return false;
            }
            at++;
            int right = token[at];
            if (!isValue(right)) {
                return false;
            }
            at++;
            told.add(sign << 28 | left << 14 | right);
            return true;
        }

        private static boolean isValue(int code) {
            return code < KINDS;
        }
    }

    /** What is asked and changes nothing, tried out on a town of its own. */
    private static final class Search {
        static final int SHORTEST = 0;
        static final int WAYS = 1;
        static final int MOST = 2;
        static final int CHEAPEST = 3;
        static final int GAME = 4;
        static final int NEVER = 1000000;
        static final int SLOT_BITS = 11;

        final Town town;
        /** The FIRST ROW or RING that was found last. */
        final int[] row = new int[PEOPLE];
        private final int[] path = new int[PEOPLE];
        private int found;
        private int question;
        /** A number for each question asked, so that what is remembered of others isn't taken for its answer. */
        private long round;
        private final long[] keys = new long[1 << SLOT_BITS];
        private final int[] answers = new int[1 << SLOT_BITS];

        Search(Town town) {
            this.town = town;
        }

        /** The answer to a question for ROWS (or a GAME) of n or fewer from how it is now. */
        int told(Town now, int question, int n) {
            town.copyPlayFrom(now);
            ask(question);
            return solve(n);
        }

        private void ask(int question) {
            this.question = question;
            round++;
        }

        /**
         * Lays into row the FIRST ROW of n or fewer that leads to the answer (of a GAME: as both play it): how long it
         * is, or NONE.
         */
        int first(Town now, int question, int n) {
            town.copyPlayFrom(now);
            ask(question);
            if (solve(n) >= NEVER) {
                return NONE;
            }
            int length = 0;
            for (int left = n; left > 0 && length < row.length; left--) {
                int best = solve(left);
                int step = NONE;
                for (int k = 0; k < CHANGES.length && step < 0; k++) {
                    if (town.canBe(CHANGES[k]) && joinedWith(CHANGES[k], left, atFirst()) == best) {
                        step = CHANGES[k];
                    }
                }
                if (step < 0) {
                    return length;
                }
                town.step(step);
                row[length] = step;
                length++;
            }
            return length;
        }

        /** PEOPLE but for whom all others can be made WHOLE. */
        int whoBars(Town now) {
            town.copyPlayFrom(now);
            ask(SHORTEST);
            if (solve(PEOPLE) < NEVER) {
                return 0;
            }
            int set = 0;
            for (int p = 0; p < town.people; p++) {
                town.out = 1 << p;
                ask(SHORTEST);
                if (solve(PEOPLE) < NEVER) {
                    set |= town.out;
                }
            }
            town.out = 0;
            return set;
        }

        int whichJar(Town now) {
            town.copyPlayFrom(now);
            ask(MOST);
            int most = solve(PEOPLE);
            int best = NONE;
            for (int t = 0; t < THINGS && most < town.people; t++) {
                town.jar[t]++;
                ask(MOST);
                int with = solve(PEOPLE);
                town.jar[t]--;
                if (with > most) {
                    most = with;
                    best = t;
                }
            }
            return best;
        }

        /** Halves the span of FEES: no RULE looks at the FEE, so with a greater one nothing more CAN BE. */
        int greatestFee(Town now, int n) {
            town.copyPlayFrom(now);
            int good = -1;
            int bad = MOST_FEE + 1;
            for (int k = 0; k <= MOST_FEE && bad - good > 1; k++) {
                town.fee = (good + bad) / 2;
                ask(SHORTEST);
                if (solve(n) < NEVER) {
                    good = town.fee;
                } else {
                    bad = town.fee;
                }
            }
            return good < 0 ? NONE : good;
        }

        /** The answer with n CHANGES left, which are never more than six. */
        private int solve(int n) {
            if (n <= 0 || town.isDone()) {
                return atEnd(n);
            }
            long key = key(n);
            int slot = (int) (key * 0x9E3779B97F4A7C15L >>> 64 - SLOT_BITS);
            if (keys[slot] == key) {
                return answers[slot];
            }
            int answer = atFirst();
            for (int c : CHANGES) {
                if (town.canBe(c)) {
                    answer = joinedWith(c, n, answer);
                }
            }
            keys[slot] = key;
            answers[slot] = answer;
            return answer;
        }

        /** The answer so far, joined with what is behind a CHANGE that is the first of n. */
        private int joinedWith(int c, int n, int answer) {
            int gave = town.has[c / 10];
            int paid = town.step(c);
            int behind = solve(n - 1);
            town.stepBack(c, gave, paid);
            switch (question) {
                case WAYS: return answer + behind;
                case MOST: return Math.max(answer, behind);
                case GAME: return Math.max(answer, -behind);
                case CHEAPEST: return Math.min(answer, behind + paid);
                default: return Math.min(answer, behind + 1);
            }
        }

        /**
         * What PEOPLE HAVE tells all else within a round: things only move, so JARS follow from it, and who still may
         * make a CHANGE has its COINS yet.
         */
        private long key(int n) {
            long all = round << 3 | n;
            for (int p = 0; p < PEOPLE; p++) {
                all = all << 3 | town.has[p];
            }
            return all;
        }

        private int atEnd(int n) {
            switch (question) {
                case WAYS: return town.isDone() ? 1 : 0;
                case MOST: return Integer.bitCount(town.whole);
                case GAME: return n <= 0 ? 0 : -1;
                default: return town.isDone() ? 0 : NEVER;
            }
        }

        /** The answer where no CHANGE CAN BE; in a GAME 1 is for who is in turn, and who can't has lost. */
        private int atFirst() {
            switch (question) {
                case WAYS: return 0;
                case MOST: return Integer.bitCount(town.whole);
                case GAME: return -1;
                default: return NEVER;
            }
        }

        /** How many RINGS of k there are; row is the FIRST of them. */
        int ringsOf(Town now, int k) {
            town.copyPlayFrom(now);
            found = 0;
            for (int p = 0; p < town.people; p++) {
                goOn(p, 0, k);
            }
            return found;
        }

        /** Goes on to p with a RING of k that is so long, up to six. */
        private void goOn(int p, int length, int k) {
            path[length] = p;
            if (length + 1 < k) {
                lookOn(length + 1, k);
            } else if (isNext(p, path[0])) {
                if (found == 0) {
                    System.arraycopy(path, 0, row, 0, k);
                }
                found++;
            }
        }

        private void lookOn(int length, int k) {
            for (int q = path[0] + 1; q < town.people; q++) {
                if (isNext(path[length - 1], q) && !isOnPath(q, length)) {
                    goOn(q, length, k);
                }
            }
        }

        private boolean isOnPath(int q, int length) {
            for (int i = 0; i < length; i++) {
                if (path[i] == q) {
                    return true;
                }
            }
            return false;
        }

        private boolean isNext(int p, int q) {
            return (town.whole >> q & 1) == 0 && (town.meets[p] >> q & 1) == 1 && town.needs[p] == town.has[q];
        }

        int bartered(Town now, int p, int n) {
            town.copyPlayFrom(now);
            return barters(p, n);
        }

        /** THINGS that p comes to from here with n BARTERS left, four at most. */
        private int barters(int p, int n) {
            int things = 1 << town.has[p];
            for (int q = 0; q < town.people && n > 0; q++) {
                if ((town.meets[p] >> q & 1) == 1) {
                    things |= bartersWith(p, q, n);
                }
            }
            return things;
        }

        private int bartersWith(int p, int q, int n) {
            int own = town.has[p];
            int other = town.has[q];
            if (own == other || town.worth[own] < town.worth[other]) {
                return 0;
            }
            town.swap(p, q);
            int things = barters(p, n - 1);
            town.swap(p, q);
            return things;
        }
    }

    /** SHEETS, SHELVES and THE TRACE. */
    private static final class Host {
        static final int MISSING = -1;
        static final int BYTES = 0;
        static final int SHORTS = 1;
        static final int BOOLEANS = 4;
        static final int NOTHING_HELD = 0;
        static final int A_PERSON = 1;
        static final int A_ROW = 2;
        static final int TRACE = 30;

        final int[] sort = {MISSING, MISSING, MISSING, MISSING};
        final int[] size = new int[SHEETS];
        final int[][] items = new int[SHEETS][MOST_ITEMS];
        final int[] holds = new int[SHEETS];
        /** The number of a PERSON, or the sort of a row: a row's sort and size outlive its SHEET. */
        final int[] held = new int[SHEETS];
        final int[] heldSize = new int[SHEETS];
        int bodies;
        final int[] body = new int[TRACE];
        /** Something was parted by 0 in this act, so that nothing else runs in it. */
        boolean isParted;

        boolean isPlace(int sheet, int i) {
            return i >= 0 && i < size[sheet];
        }

        /** Why a SHEET can't be taken for a sort, or 0. */
        int refusal(int sheet, int asSort) {
            if (sort[sheet] == MISSING) {
                return NOTHING;
            }
            return sort[sheet] == asSort ? 0 : OTHER_SORT;
        }

        int narrowed(int toSort, int v) {
            switch (toSort) {
                case BYTES: return (byte) v;
                case SHORTS: return (short) v;
                case BOOLEANS: return v != 0 ? 1 : 0;
                default: return v;
            }
        }

        int hold(int shelf, int what, int which, int itsSize) {
            holds[shelf] = what;
            held[shelf] = which;
            heldSize[shelf] = itsSize;
            return 1;
        }

        int holdRow(int shelf, int sheet) {
            return hold(shelf, sort[sheet] == MISSING ? NOTHING_HELD : A_ROW, sort[sheet], size[sheet]);
        }

        void startTrace() {
            bodies = 0;
            isParted = false;
        }

        void began(int number) {
            if (!isParted && bodies < TRACE) {
                body[bodies] = number;
                bodies++;
            }
        }
    }
}
