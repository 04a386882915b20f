/**
 * "BAD: there is no such thing, or a number is not as told": every number that a call takes, at both ends of what is
 * told of it and one step outside.
 */
public final class RangesTest {
    private static final Check CHECK = new Check();
    private static final int BAD = -1;
    private static final Check.Made NEW = HadForVoice::new;

    public static void main(String[] args) {
        person();
        people();
        meets();
        things();
        changes();
        rows();
        ringsAndBarter();
        gameAndReports();
        theReader();
        sheets();
        sizes();
        itemsAtOnce();
        places();
        shelves();
        taken();
        CHECK.end();
    }

    private static void range(int promise, String call, int least, int most, Check.Made made, Check.Open open) {
        CHECK.range(promise, call, least, most, BAD, made, open);
    }

    private static void person() {
        range(2, "person(v, 0, 0, 0)", 1, 5, NEW, (x, v) -> x.person(v, 0, 0, 0));
        range(2, "person(1, v, 0, 0)", 0, 7, NEW, (x, v) -> x.person(1, v, 0, 0));
        range(2, "person(1, 0, v, 0)", 0, 7, NEW, (x, v) -> x.person(1, 0, v, 0));
        range(2, "person(1, 0, 0, v)", 0, 999, NEW, (x, v) -> x.person(1, 0, 0, v));
    }

    /** "There is no such thing": of 0 to 6 PEOPLE the last one and the one behind it. */
    private static void people() {
        for (int m = 0; m <= 6; m++) {
            int many = m;
            int last = m - 1;
            Check.Made all = () -> Check.whole(many);
            for (int w = 0; w <= 6; w++) {
                int what = w;
                range(3, "of " + many + " personOf(v, " + what + ")", 0, last, all, (x, v) -> x.personOf(v, what));
            }
            for (int w = 1; w <= 3; w++) {
                int what = w;
                range(4, "of " + many + " change(v, " + what + ", 0)", 0, last, all, (x, v) -> x.change(v, what, 0));
            }
            range(5, "of " + many + " remake(v, 1)", 0, last, all, (x, v) -> x.remake(v, 1));
            range(28, "of " + many + " comes(v, 0)", 0, last, all, (x, v) -> x.comes(v, 0));
            range(29, "of " + many + " dearest(v, 0)", 0, last, all, (x, v) -> x.dearest(v, 0));
            range(48, "of " + many + " shelf(0, 0, v)", 0, last, all, (x, v) -> x.shelf(0, 0, v));
            range(15, "of " + many + " make(v, 9)", 0, last, all, (x, v) -> x.make(v, 9));
        }
        Check.Made one = () -> Check.whole(1);
        range(3, "personOf(0, v)", 0, 6, one, (x, v) -> x.personOf(0, v));
        range(4, "change(0, v, 0)", 1, 3, one, (x, v) -> x.change(0, v, 0));
        range(4, "change(0, 1, v)", 0, 7, one, (x, v) -> x.change(0, 1, v));
        range(4, "change(0, 2, v)", 0, 7, one, (x, v) -> x.change(0, 2, v));
        range(4, "change(0, 3, v)", 0, 999, one, (x, v) -> x.change(0, 3, v));
        range(5, "remake(0, v)", 1, 5, one, (x, v) -> x.remake(0, v));
    }

    /** "Two unlike PEOPLE", both of them there; so too for CHANGES "p with a greater PERSON q, or with 9". */
    private static void meets() {
        for (int many = 0; many <= 6; many++) {
            HadForVoice x = Check.whole(many);
            for (int p = -1; p <= 10; p++) {
                for (int q = -1; q <= 11; q++) {
                    boolean areThere = p >= 0 && p < many && q >= 0 && q < many;
                    String two = "of " + many + ": " + p + ", " + q;
                    CHECK.due(6, two + " meet", x.meets(p, q, false), areThere && p != q ? 0 : BAD);
                    boolean isChange = areThere && p < q || p >= 0 && p < many && q == 9;
                    CHECK.due(15, two + " change", x.make(p, q), isChange ? -4 : BAD);
                }
            }
        }
    }

    private static void things() {
        range(7, "worth(v, 0)", 0, 7, NEW, (x, v) -> x.worth(v, 0));
        range(7, "worth(0, v)", 0, 99, NEW, (x, v) -> x.worth(0, v));
        range(7, "worth(7, v)", 0, 99, NEW, (x, v) -> x.worth(7, v));
        range(8, "jar(v, 0)", 0, 7, NEW, (x, v) -> x.jar(v, 0));
        range(8, "jar(0, v)", 0, 9, NEW, (x, v) -> x.jar(0, v));
        range(8, "jar(7, v)", 0, 9, NEW, (x, v) -> x.jar(7, v));
        range(9, "fee(v)", 0, 50, NEW, HadForVoice::fee);
        for (int w = 0; w <= 3; w++) {
            int what = w;
            range(10, "thing(v, " + what + ")", 0, 7, NEW, (x, v) -> x.thing(v, what));
        }
        range(10, "thing(7, v)", 0, 3, NEW, (x, v) -> x.thing(7, v));
        range(11, "state(v)", 0, 3, NEW, HadForVoice::state);
        range(52, "many(v)", 0, 6, NEW, HadForVoice::many);
    }

    private static void changes() {
        range(12, "feed(0, v)", 1, 8, NEW, (x, v) -> x.feed(0, v));
        HadForVoice x = new HadForVoice();
        for (int from : new int[] {-1, 0, 59, 60, Check.MAX}) {
            CHECK.due(14, "cans(" + from + ")", x.cans(from), -3);
        }
        CHECK.due(14, "cans(-2)", x.cans(-2), BAD);
        CHECK.due(14, "cans(MIN)", x.cans(Check.MIN), BAD);
    }

    private static void rows() {
        Check.Made[] all = {NEW, Check::circle, () -> Check.lacking(6, 6), () -> Check.lacking(6, 5)};
        for (Check.Made made : all) {
            range(18, "ith(v)", 0, 5, made, HadForVoice::ith);
            range(19, "ways(v)", 0, 6, made, HadForVoice::ways);
            range(20, "most(v)", 0, 6, made, HadForVoice::most);
            range(21, "cheapest(v)", 0, 6, made, HadForVoice::cheapest);
            range(22, "cheaply(v, 0)", 0, 6, made, (x, v) -> x.cheaply(v, 0));
            range(22, "cheaply(6, v)", 0, 5, made, (x, v) -> x.cheaply(6, v));
            range(22, "cheaply(0, v)", 0, 5, made, (x, v) -> x.cheaply(0, v));
            range(25, "feeFor(v)", 1, 6, made, HadForVoice::feeFor);
        }
    }

    private static void ringsAndBarter() {
        Check.Made[] all = {NEW, Check::circle, () -> Check.whole(6)};
        for (Check.Made made : all) {
            range(26, "rings(v)", 2, 6, made, HadForVoice::rings);
            range(27, "ring(v, 0)", 2, 6, made, (x, v) -> x.ring(v, 0));
            range(27, "ring(v, 1)", 2, 6, made, (x, v) -> x.ring(v, 1));
            for (int size = 2; size <= 6; size++) {
                int k = size;
                range(27, "ring(" + k + ", v)", 0, k - 1, made, (x, v) -> x.ring(k, v));
            }
        }
        range(28, "comes(2, v)", 0, 4, Check::circle, (x, v) -> x.comes(2, v));
        range(29, "dearest(2, v)", 0, 4, Check::circle, (x, v) -> x.dearest(2, v));
    }

    private static void gameAndReports() {
        Check.Made[] all = {NEW, Check::circle};
        for (Check.Made made : all) {
            range(30, "game(v)", 1, 6, made, HadForVoice::game);
            range(31, "play(v)", 1, 6, made, HadForVoice::play);
            range(34, "span(v)", 0, 2, made, HadForVoice::span);
            range(38, "often(v)", 1, 60, made, HadForVoice::often);
        }
        range(32, "report(v, 0, 0)", 0, 99, NEW, (x, v) -> x.report(v, 0, 0));
        range(32, "report(0, v, 0)", 0, 99, NEW, (x, v) -> x.report(0, v, 0));
        range(32, "report(0, 0, v)", 0, 999, NEW, (x, v) -> x.report(0, 0, v));
    }

    /** "-9: there is none such, another what": of 0 to 6 ROWS the last one and the one behind it. */
    private static void theReader() {
        for (int m = 0; m <= 6; m++) {
            int many = m;
            Check.Made made = () -> {
                HadForVoice x = Check.lacking(many, many);
                CHECK.due(39, "prove()", x.prove(), many);
                return x;
            };
            for (int w = 0; w <= 2; w++) {
                int what = w;
                String which = "of " + many + " (v, " + what + "): ";
                CHECK.range(40, which + "row", 0, many - 1, -9, made, (x, v) -> x.row(v, what));
                CHECK.range(41, which + "alterRow", 0, many - 1, -9, made, (x, v) -> x.alterRow(v, what, 5));
            }
            if (many > 0) {
                CHECK.range(40, "row(0, v)", 0, 2, -9, made, (x, v) -> x.row(0, v));
                CHECK.range(41, "alterRow(0, v, 5)", 0, 2, -9, made, (x, v) -> x.alterRow(0, v, 5));
            }
        }
    }

    private static void sheets() {
        range(43, "sheet(v, 0, 1)", 0, 3, NEW, (x, v) -> x.sheet(v, 0, 1));
        range(43, "sheet(0, v, 1)", -1, 4, NEW, (x, v) -> x.sheet(0, v, 1));
        range(44, "write(v, 0, 1)", 0, 3, NEW, (x, v) -> x.write(v, 0, 1));
        range(45, "item(v, 0, 0)", 0, 3, NEW, (x, v) -> x.item(v, 0, 0));
        range(45, "item(0, v, 0)", 0, 4, NEW, (x, v) -> x.item(0, v, 0));
    }

    private static void sizes() {
        for (int sort = 0; sort <= 4; sort++) {
            HadForVoice x = new HadForVoice();
            for (int n = 0; n <= 40; n++) {
                CHECK.due(43, "sheet(0, " + sort + ", " + n + ")", x.sheet(0, sort, n), 1);
            }
            CHECK.due(43, "a size of 41", x.sheet(0, sort, 41), BAD);
            CHECK.due(43, "a size of MAX", x.sheet(0, sort, Check.MAX), BAD);
            CHECK.due(43, "a size of -1", x.sheet(0, sort, -1), -14);
            CHECK.due(43, "a size of MIN", x.sheet(0, sort, Check.MIN), -14);
        }
        HadForVoice x = new HadForVoice();
        for (int n : new int[] {Check.MIN, -1, 0, 1, 40, 41, Check.MAX}) {
            CHECK.due(43, "missing: " + n + " counts nothing", x.sheet(0, -1, n), 1);
        }
    }

    private static void itemsAtOnce() {
        for (int n = -1; n <= 40; n++) {
            int size = n;
            Check.Made made = () -> {
                HadForVoice x = new HadForVoice();
                x.sheet(1, size < 0 ? -1 : 0, size);
                return x;
            };
            range(46, "of " + size + " makeAll(1, 0, v)", 0, 20, made, (x, v) -> x.makeAll(1, 0, v));
            range(47, "of " + size + " wouldCost(1, 0, v)", 0, 20, made, (x, v) -> x.wouldCost(1, 0, v));
            range(46, "of " + size + " makeAll(v, 0, 1)", 0, 3, made, (x, v) -> x.makeAll(v, 0, 1));
            range(47, "of " + size + " wouldCost(v, 0, 1)", 0, 3, made, (x, v) -> x.wouldCost(v, 0, 1));
        }
    }

    /** "-12 a place outside": of rows of 0, 1, 2, 39 and 40 the last place and the one behind it. */
    private static void places() {
        for (int size : new int[] {0, 1, 2, 39, 40}) {
            for (int s = 0; s <= 4; s++) {
                int sort = s;
                Check.Made made = () -> {
                    HadForVoice x = new HadForVoice();
                    x.sheet(2, sort, size);
                    return x;
                };
                String of = "of " + size + " of sort " + sort + ": ";
                CHECK.range(44, of + "write(2, v, 7)", 0, size - 1, -12, made, (x, v) -> x.write(2, v, 7));
                CHECK.range(45, of + "item(2, sort, v)", 0, size - 1, -12, made, (x, v) -> x.item(2, sort, v));
                if (sort == 0) {
                    CHECK.range(46, of + "makeAll(2, v, 1)", 0, size - 1, -12, made, (x, v) -> x.makeAll(2, v, 1));
                    CHECK.range(46, of + "makeAll(2, v, 2)", 0, size - 2, -12, made, (x, v) -> x.makeAll(2, v, 2));
                    CHECK.range(47, of + "wouldCost(2, v, 1)", 0, size - 1, -12, made, (x, v) -> x.wouldCost(2, v, 1));
                }
            }
        }
    }

    private static HadForVoice withSheets() {
        HadForVoice x = Check.whole(2);
        for (int sheet = 0; sheet < 4; sheet++) {
            x.sheet(sheet, 0, 3);
        }
        return x;
    }

    private static void shelves() {
        Check.Made made = RangesTest::withSheets;
        range(48, "shelf(v, 0, 0)", 0, 3, made, (x, v) -> x.shelf(v, 0, 0));
        range(48, "shelf(v, 1, 0)", 0, 3, made, (x, v) -> x.shelf(v, 1, 0));
        range(48, "shelf(v, 2, 0)", 0, 3, made, (x, v) -> x.shelf(v, 2, 0));
        range(48, "shelf(0, v, 0)", 0, 2, made, (x, v) -> x.shelf(0, v, 0));
        range(48, "shelf(0, 1, v)", 0, 3, made, (x, v) -> x.shelf(0, 1, v));
        HadForVoice y = withSheets();
        for (int n : new int[] {Check.MIN, -1, 0, 2, 4, Check.MAX}) {
            CHECK.due(48, "nothing: " + n + " counts nothing", y.shelf(0, 2, n), 1);
        }
    }

    private static void taken() {
        for (int w = 0; w <= 2; w++) {
            int what = w;
            Check.Made made = () -> {
                HadForVoice x = withSheets();
                x.shelf(3, what, 1);
                return x;
            };
            HadForVoice y = made.made();
            for (int as = -2; as <= 17; as++) {
                boolean isOne = as >= 0 && as <= 5 || as >= 10 && as <= 14;
                CHECK.due(49, "taken(3, " + as + ") is BAD", y.taken(3, as) == BAD ? 1 : 0, isOne ? 0 : 1);
            }
            CHECK.due(49, "taken(3, MIN)", y.taken(3, Check.MIN), BAD);
            CHECK.due(49, "taken(3, MAX)", y.taken(3, Check.MAX), BAD);
            range(49, "taken(v, 0)", 0, 3, made, (x, v) -> x.taken(v, 0));
            range(49, "taken(v, 14)", 0, 3, made, (x, v) -> x.taken(v, 14));
        }
    }
}
