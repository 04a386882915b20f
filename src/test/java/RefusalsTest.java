/**
 * "Answers below 0 are refusals; such a call changes nothing; of several the first named", and "what is asked changes
 * nothing": behind such a call all else is answered as by an object that was never asked.
 */
public final class RefusalsTest {
    private static final Check CHECK = new Check();
    private static final int BAD = -1;
    private static final int FULL = -2;
    private static final int NONE = -3;
    private static final int STATE = -4;
    private static final int NO_ROW = -9;
    private static final int NOTHING = -11;
    private static final int OUTSIDE = -12;
    private static final int OTHER = -13;
    private static final int BELOW_0 = -14;

    private static Check.Made made;
    private static int promise;

    private interface Call {
        int of(HadForVoice x);
    }

    public static void main(String[] args) {
        Check.Made[] states = {HadForVoice::new, RefusalsTest::busy, RefusalsTest::full};
        for (Check.Made state : states) {
            made = state;
            badInAll();
            badOfTheHost();
            asked();
            askedForRows();
        }
        made = HadForVoice::new;
        inANewOne();
        made = RefusalsTest::full;
        inAFullOne();
        made = RefusalsTest::busy;
        inABusyOne();
        whatARefusalUsesUp();
        CHECK.end();
    }

    /** Three who can exchange and go to the witch, with a bit of all else. */
    private static HadForVoice busy() {
        HadForVoice x = Check.circle();
        x.person(3, 3, 0, 200);
        x.person(5, 0, 3, 150);
        x.meets(3, 4, true);
        x.fee(2);
        x.jar(1, 2);
        x.change(0, 3, 99);
        Check.rules(x, "beast less 4; person if has < need more 1;");
        x.report(10, 20, 23);
        x.report(5, 5, 3);
        x.prove();
        x.make(3, 4);
        x.sheet(0, 0, 5);
        x.write(0, 0, 1);
        x.write(0, 1, 12);
        x.sheet(1, 3, 2);
        x.write(1, 1, -5);
        x.shelf(0, 0, 3);
        x.shelf(1, 1, 0);
        x.act(0, 3, 17);
        x.keep();
        Check.feed(x, "maid free;");
        x.change(2, 3, 8);
        return x;
    }

    /** Nobody more, no REPORT more, no byte more; no CHANGE CAN BE, none can be taken back; two ROWS of earlier. */
    private static HadForVoice full() {
        HadForVoice x = Check.lacking(6, 2);
        for (int p = 0; p < 4; p++) {
            x.change(p, 1, 1);
        }
        x.prove();
        x.make(4, 9);
        x.make(5, 9);
        x.change(5, 1, 3);
        x.change(1, 1, 0);
        for (int k = 0; k < 6; k++) {
            x.report(k, 99, 10 * k);
        }
        x.sheet(2, 0, 40);
        x.write(2, 7, 9);
        x.sheet(3, 4, 1);
        x.shelf(2, 0, 5);
        x.act(2, 1, 7);
        x.keep();
        x.fee(50);
        Check.feed(x, " ".repeat(180) + "maid less 7;        ");
        return x;
    }

    /** What an object answers to all that can be asked of it, and then to what changes it. */
    private static String probe(HadForVoice x) {
        StringBuilder all = new StringBuilder();
        for (int k = 0; k < 8; k++) {
            all.append(x.many(k)).append(' ').append(x.state(k)).append(' ');
            for (int what = 0; what < 7; what++) {
                all.append(x.personOf(k, what)).append(' ').append(x.thing(k, what)).append(' ');
            }
            for (int what = 0; what < 3 && k < 6; what++) {
                all.append(x.row(k, what)).append(' ');
            }
            all.append(x.trace(k)).append(k < 3 ? " " + x.span(k) : "").append('\n');
        }
        for (int s = 0; s < 4; s++) {
            for (int sort = 0; sort < 5; sort++) {
                all.append(x.taken(s, sort)).append(' ').append(x.taken(s, 10 + sort)).append(' ');
                for (int i = 0; i < 8; i++) {
                    all.append(x.item(s, sort, i)).append(' ');
                }
            }
        }
        all.append(x.judge()).append(' ').append(x.liar()).append(' ').append(x.feed(0, 1)).append(' ');
        all.append(x.rules()).append(' ').append(x.personOf(0, 4)).append(' ').append(x.draw()).append(' ');
        all.append(x.seed(4)).append(' ').append(x.change(5, 1, 1)).append('\n');
        for (int k = 0; k < 3; k++) {
            all.append(x.back()).append(' ').append(x.state(0)).append(' ');
        }
        all.append(x.again()).append(' ').append(x.state(0)).append(' ').append(x.seed(5)).append(' ').append(x.back());
        return all.append(' ').append(x.many(1)).append(' ').append(x.many(3)).append(' ').append(x.fee(0)).toString();
    }

    private static void same(String call, Call asked) {
        HadForVoice x = made.made();
        asked.of(x);
        String due = probe(made.made());
        String got = probe(x);
        CHECK.due(promise, call + " changes nothing (0): " + (got.equals(due) ? "" : got), got.equals(due) ? 0 : 1, 0);
    }

    private static void refused(int due, String call, Call asked) {
        CHECK.due(promise, call, asked.of(made.made()), due);
        same(call, asked);
    }

    private static void badInAll() {
        int[] outside = {-1, 1000, Check.MIN, Check.MAX};
        for (int v : outside) {
            promise = 2;
            refused(BAD, "person(" + v + ", ...)", x -> x.person(v, 0, 0, 0));
            refused(BAD, "person(1, " + v + ", ...)", x -> x.person(1, v, 0, 0));
            refused(BAD, "person(1, 0, " + v + ", 0)", x -> x.person(1, 0, v, 0));
            refused(BAD, "person(1, 0, 0, " + v + ")", x -> x.person(1, 0, 0, v));
            promise = 4;
            refused(BAD, "change(" + v + ", 1, 0)", x -> x.change(v, 1, 0));
            refused(BAD, "change(0, " + v + ", 0)", x -> x.change(0, v, 0));
            refused(BAD, "change(0, 1, " + v + ")", x -> x.change(0, 1, v));
            refused(BAD, "change(0, 2, " + v + ")", x -> x.change(0, 2, v));
            refused(BAD, "change(0, 3, " + v + ")", x -> x.change(0, 3, v));
            promise = 5;
            refused(BAD, "remake(" + v + ", 1)", x -> x.remake(v, 1));
            refused(BAD, "remake(0, " + v + ")", x -> x.remake(0, v));
            promise = 6;
            refused(BAD, "meets(" + v + ", 0, true)", x -> x.meets(v, 0, true));
            refused(BAD, "meets(0, " + v + ", false)", x -> x.meets(0, v, false));
            promise = 7;
            refused(BAD, "worth(" + v + ", 1)", x -> x.worth(v, 1));
            refused(BAD, "worth(1, " + v + ")", x -> x.worth(1, v));
            promise = 8;
            refused(BAD, "jar(" + v + ", 1)", x -> x.jar(v, 1));
            refused(BAD, "jar(1, " + v + ")", x -> x.jar(1, v));
            promise = 9;
            refused(BAD, "fee(" + v + ")", x -> x.fee(v));
            promise = 12;
            refused(BAD, "feed(32, " + v + ")", x -> x.feed(32, v));
            promise = 15;
            refused(BAD, "make(" + v + ", 9)", x -> x.make(v, 9));
            refused(BAD, "make(0, " + v + ")", x -> x.make(0, v));
            promise = 32;
            refused(BAD, "report(" + v + ", 0, 0)", x -> x.report(v, 0, 0));
            refused(BAD, "report(0, " + v + ", 0)", x -> x.report(0, v, 0));
            refused(BAD, "report(0, 0, " + v + ")", x -> x.report(0, 0, v));
            promise = 41;
            refused(NO_ROW, "alterRow(" + v + ", 0, 1)", x -> x.alterRow(v, 0, 1));
            refused(NO_ROW, "alterRow(0, " + v + ", 1)", x -> x.alterRow(0, v, 1));
        }
    }

    private static void badOfTheHost() {
        int[] outside = {-2, 1000, Check.MIN, Check.MAX};
        for (int v : outside) {
            promise = 43;
            refused(BAD, "sheet(" + v + ", 0, -1): BAD ahead of -14", x -> x.sheet(v, 0, -1));
            refused(BAD, "sheet(0, " + v + ", -1): BAD ahead of -14", x -> x.sheet(0, v, -1));
            refused(v < 0 ? BELOW_0 : BAD, "sheet(0, 0, " + v + ")", x -> x.sheet(0, 0, v));
            promise = 44;
            refused(BAD, "write(" + v + ", 99, 1): BAD ahead of -11 and -12", x -> x.write(v, 99, 1));
            promise = 45;
            refused(BAD, "item(" + v + ", 0, 99): BAD ahead of all", x -> x.item(v, 0, 99));
            refused(BAD, "item(0, " + v + ", 99): BAD ahead of all", x -> x.item(0, v, 99));
            promise = 46;
            refused(BAD, "makeAll(" + v + ", 99, 1): BAD ahead of all", x -> x.makeAll(v, 99, 1));
            refused(BAD, "makeAll(0, 99, " + v + "): BAD ahead of all", x -> x.makeAll(0, 99, v));
            promise = 47;
            refused(BAD, "wouldCost(" + v + ", 99, 1): BAD ahead of all", x -> x.wouldCost(v, 99, 1));
            refused(BAD, "wouldCost(0, 99, " + v + "): BAD ahead of all", x -> x.wouldCost(0, 99, v));
            promise = 48;
            refused(BAD, "shelf(" + v + ", 2, 0)", x -> x.shelf(v, 2, 0));
            refused(BAD, "shelf(0, " + v + ", 0)", x -> x.shelf(0, v, 0));
            refused(BAD, "shelf(0, 0, " + v + ")", x -> x.shelf(0, 0, v));
            refused(BAD, "shelf(0, 1, " + v + ")", x -> x.shelf(0, 1, v));
            promise = 49;
            refused(BAD, "taken(" + v + ", 0)", x -> x.taken(v, 0));
            refused(BAD, "taken(0, " + v + ")", x -> x.taken(0, v));
        }
    }

    private static void asked() {
        for (int k = -2; k <= 62; k++) {
            int v = k;
            promise = 14;
            same("cans(" + v + ")", x -> x.cans(v));
            promise = 38;
            same("often(" + v + ")", x -> x.often(v));
        }
        for (int k = -1; k <= 7; k++) {
            int v = k;
            promise = 3;
            same("personOf(0, " + v + ")", x -> x.personOf(0, v));
            promise = 26;
            same("rings(" + v + ")", x -> x.rings(v));
            promise = 27;
            same("ring(" + v + ", 1)", x -> x.ring(v, 1));
            promise = 28;
            same("comes(2, " + v + ")", x -> x.comes(2, v));
            promise = 29;
            same("dearest(2, " + v + ")", x -> x.dearest(2, v));
            promise = 30;
            same("game(" + v + ")", x -> x.game(v));
            promise = 31;
            same("play(" + v + ")", x -> x.play(v));
            promise = 34;
            same("span(" + v + ")", x -> x.span(v));
            promise = 45;
            same("item(0, 0, " + v + ")", x -> x.item(0, 0, v));
            promise = 47;
            same("wouldCost(0, 0, " + v + ")", x -> x.wouldCost(0, 0, v));
            promise = 51;
            same("trace(" + v + ")", x -> x.trace(v));
        }
        promise = 35;
        same("liar()", HadForVoice::liar);
        promise = 42;
        same("judge()", HadForVoice::judge);
    }

    private static void askedForRows() {
        promise = 17;
        same("fewest()", HadForVoice::fewest);
        promise = 23;
        same("bars()", HadForVoice::bars);
        promise = 24;
        same("jars()", HadForVoice::jars);
        for (int k = -1; k <= 7; k++) {
            int v = k;
            promise = 18;
            same("ith(" + v + ")", x -> x.ith(v));
            promise = 19;
            same("ways(" + v + ")", x -> x.ways(v));
            promise = 20;
            same("most(" + v + ")", x -> x.most(v));
            promise = 21;
            same("cheapest(" + v + ")", x -> x.cheapest(v));
            promise = 22;
            same("cheaply(6, " + v + ")", x -> x.cheaply(6, v));
            same("cheaply(" + v + ", 0)", x -> x.cheaply(v, 0));
            promise = 25;
            same("feeFor(" + v + ")", x -> x.feeFor(v));
        }
    }

    private static void inANewOne() {
        promise = 16;
        refused(NONE, "back()", HadForVoice::back);
        promise = 37;
        refused(NONE, "draw()", HadForVoice::draw);
        promise = 44;
        refused(NOTHING, "write(0, 99, 1): -11 ahead of -12", x -> x.write(0, 99, 1));
        promise = 45;
        refused(NOTHING, "item(0, 0, 99): -11 ahead of -12", x -> x.item(0, 0, 99));
        promise = 46;
        refused(NOTHING, "makeAll(0, 99, 1): -11 ahead of -12", x -> x.makeAll(0, 99, 1));
        promise = 47;
        refused(NOTHING, "wouldCost(0, 99, 1): -11 ahead of -12", x -> x.wouldCost(0, 99, 1));
        promise = 54;
        refused(NONE, "again()", HadForVoice::again);
        refused(NONE, "again() twice", x -> x.again() + 0 * x.again());
    }

    private static void inAFullOne() {
        promise = 2;
        refused(FULL, "a seventh PERSON", x -> x.person(5, 7, 7, 999));
        refused(BAD, "BAD ahead of FULL", x -> x.person(6, 7, 7, 999));
        promise = 6;
        refused(BAD, "of one PERSON", x -> x.meets(5, 5, true));
        refused(BAD, "of a seventh one", x -> x.meets(5, 6, true));
        promise = 12;
        refused(FULL, "a byte more than 200", x -> x.feed(32, 1));
        refused(BAD, "BAD ahead of FULL", x -> x.feed(32, 9));
        promise = 15;
        refused(STATE, "it can't be", x -> x.make(1, 9));
        refused(STATE, "it can't be", x -> x.make(1, 5));
        refused(BAD, "BAD ahead of STATE", x -> x.make(5, 1));
        refused(BAD, "BAD ahead of STATE", x -> x.make(5, 5));
        promise = 16;
        refused(STATE, "back()", HadForVoice::back);
        promise = 32;
        refused(FULL, "a seventh REPORT", x -> x.report(0, 0, 0));
        refused(BAD, "BAD ahead of FULL", x -> x.report(0, 100, 0));
        promise = 37;
        refused(NONE, "draw()", HadForVoice::draw);
        promise = 39;
        refused(NONE, "prove()", HadForVoice::prove);
        promise = 41;
        refused(NO_ROW, "the third ROW of two", x -> x.alterRow(2, 0, 1));
        promise = 44;
        refused(OUTSIDE, "write behind the last", x -> x.write(2, 40, 1));
        refused(OUTSIDE, "write ahead of the first", x -> x.write(3, -1, 1));
        promise = 46;
        refused(OTHER, "-13 ahead of -12", x -> x.makeAll(3, 99, 1));
        refused(OUTSIDE, "outside", x -> x.makeAll(2, 40, 1));
        promise = 47;
        refused(OTHER, "-13 ahead of -12", x -> x.wouldCost(3, 99, 1));
        refused(OUTSIDE, "outside", x -> x.wouldCost(2, 40, 1));
        promise = 48;
        refused(BAD, "a seventh PERSON", x -> x.shelf(2, 0, 6));
        refused(BAD, "a fifth SHEET", x -> x.shelf(2, 1, 4));
        promise = 49;
        refused(OTHER, "no prince", x -> x.taken(2, 4));
    }

    /** BAD ahead of NONE; and what a call of the host would do were it not for its refusal. */
    private static void inABusyOne() {
        promise = 43;
        refused(BAD, "41 items", x -> x.sheet(0, 0, 41));
        refused(BELOW_0, "-1 items", x -> x.sheet(0, 0, -1));
        promise = 44;
        refused(NOTHING, "missing", x -> x.write(2, 0, 1));
        refused(OUTSIDE, "behind the last", x -> x.write(1, 2, 1));
        promise = 45;
        refused(OTHER, "longs as bytes, outside", x -> x.item(1, 0, 2));
        promise = 46;
        refused(OTHER, "longs", x -> x.makeAll(1, 0, 2));
        refused(NOTHING, "missing", x -> x.makeAll(3, 0, 2));
        refused(OUTSIDE, "all outside", x -> x.makeAll(0, -1, 3));
        promise = 47;
        refused(OUTSIDE, "behind the last one", x -> x.wouldCost(0, 5, 1));
        refused(STATE, "the third is none", x -> x.wouldCost(0, 0, 3));
        promise = 49;
        refused(OTHER, "a row as a person", x -> x.taken(1, 0));
        refused(OTHER, "a widow as a beast", x -> x.taken(0, 5));
        refused(NOTHING, "nothing", x -> x.taken(3, 0));
        promise = 18;
        refused(BAD, "ith(6)", x -> x.ith(6));
        promise = 27;
        refused(BAD, "BAD ahead of NONE", x -> x.ring(2, 2));
        refused(NONE, "no such RING", x -> x.ring(6, 5));
    }

    /** "Such a call changes nothing (but that THE TAPE is used up by rules())"; makeAll() did what stood ahead. */
    private static void whatARefusalUsesUp() {
        HadForVoice x = busy();
        CHECK.due(13, "one RULE more", Check.rules(x, "no;"), -110);
        CHECK.due(52, "THE TAPE", x.many(5), 0);
        CHECK.due(52, "RULES", x.many(1), 2);
        HadForVoice y = busy();
        y.rules();
        CHECK.due(52, "a RULE in place of two", y.many(1), 1);
        CHECK.due(13, "a FAULT", Check.rules(y, "miser"), -105);
        CHECK.due(52, "RULES", y.many(1), 1);
        HadForVoice z = busy();
        CHECK.due(46, "1 and 12 ahead, then three that are none, then outside", z.makeAll(0, 0, 6), OUTSIDE);
        CHECK.due(11, "two more were made", z.state(3), 3);
        CHECK.due(16, "back()", z.back(), 12);
        CHECK.due(16, "back()", z.back(), 1);
    }
}
