/** Promises 43 to 51: SHEETS, SHELVES, ACTS and THE TRACE. */
public final class HostTest {
    private static final Check CHECK = new Check();
    private static final int MIN = Integer.MIN_VALUE;
    private static final int MAX = Integer.MAX_VALUE;

    public static void main(String[] args) {
        sheet();
        writeAndItem();
        makeAll();
        wouldCost();
        shelfAndTaken();
        rowsOnShelves();
        acts();
        noActs();
        actsParted();
        CHECK.end();
    }

    private static void due(int promise, String call, long got, long want) {
        CHECK.due(promise, call, got, want);
    }

    private static void sheet() {
        HadForVoice x = new HadForVoice();
        due(43, "sheet(0, 0, 40)", x.sheet(0, 0, 40), 1);
        due(43, "sheet(0, 0, 41)", x.sheet(0, 0, 41), -1);
        due(43, "sheet(0, 0, -1)", x.sheet(0, 0, -1), -14);
        due(43, "sheet(0, 0, MIN)", x.sheet(0, 0, MIN), -14);
        due(43, "sheet(4, 0, -1)", x.sheet(4, 0, -1), -1);
        due(43, "sheet(-1, 0, 1)", x.sheet(-1, 0, 1), -1);
        due(43, "sheet(0, 5, 1)", x.sheet(0, 5, 1), -1);
        due(43, "sheet(0, -2, 1)", x.sheet(0, -2, 1), -1);
        due(43, "sheet(0, 5, -1)", x.sheet(0, 5, -1), -1);
        due(43, "it stays", x.item(0, 0, 39), 0);
        x.write(0, 39, 5);
        due(43, "sheet(0, 0, 40) again", x.sheet(0, 0, 40), 1);
        due(43, "all 0", x.item(0, 0, 39), 0);
        due(43, "sheet(0, -1, MIN)", x.sheet(0, -1, MIN), 1);
        due(43, "missing", x.item(0, 0, 0), -11);
        due(43, "sheet(0, -1, 41)", x.sheet(0, -1, 41), 1);
        due(43, "of none", x.sheet(3, 4, 0), 1);
        due(43, "no place in it", x.item(3, 4, 0), -12);
    }

    private static void writeAndItem() {
        HadForVoice x = new HadForVoice();
        int[] narrowed = {-128, -32640, 98432, 98432, 1};
        for (int sort = 0; sort < 5; sort++) {
            x.sheet(1, sort, 3);
            due(44, "write(1, 2, 98432)", x.write(1, 2, 98432), 1);
            due(45, "item(1, " + sort + ", 2)", x.item(1, sort, 2), narrowed[sort]);
            due(45, "item(1, " + sort + ", 1)", x.item(1, sort, 1), 0);
            for (int other = 0; other < 5; other++) {
                if (other != sort) {
                    due(45, "another sort", x.item(1, other, 2), -13);
                    due(45, "another sort, outside", x.item(1, other, 9), -13);
                }
            }
            due(44, "write(1, 3, 1)", x.write(1, 3, 1), -12);
            due(44, "write(1, -1, 1)", x.write(1, -1, 1), -12);
            due(44, "write(1, MAX, 1)", x.write(1, MAX, 1), -12);
            due(45, "item(1, sort, 3)", x.item(1, sort, 3), -12);
            due(45, "item(1, sort, -1)", x.item(1, sort, -1), -12);
        }
        x.sheet(1, 3, 1);
        x.write(1, 0, -11);
        due(45, "an item as low as these", x.item(1, 3, 0), -11);
        x.sheet(1, 4, 1);
        x.write(1, 0, MIN);
        due(44, "not 0", x.item(1, 4, 0), 1);
        x.write(1, 0, 0);
        due(44, "0", x.item(1, 4, 0), 0);
        x.sheet(1, 0, 1);
        x.write(1, 0, 127);
        due(44, "127", x.item(1, 0, 0), 127);
        due(44, "missing", x.write(0, 9, 1), -11);
        due(44, "no such sheet", x.write(4, 0, 1), -1);
        due(44, "no such sheet", x.write(-1, 0, 1), -1);
        due(45, "missing", x.item(0, 3, 9), -11);
        due(45, "no such sheet", x.item(4, 0, 0), -1);
        due(45, "no such sort", x.item(1, 5, 0), -1);
        due(45, "no such sort", x.item(0, -1, 0), -1);
    }

    private static void lay(HadForVoice x, int... items) {
        x.sheet(0, 0, items.length);
        for (int i = 0; i < items.length; i++) {
            x.write(0, i, items[i]);
        }
    }

    private static void makeAll() {
        HadForVoice x = Check.circle();
        lay(x, 1, 1, -5, 99, 16, 20, 12, 9);
        due(46, "makeAll(0, 0, 8)", x.makeAll(0, 0, 8), 2);
        due(46, "all are whole", x.state(0), 7);
        due(46, "in the ledger", x.state(3), 2);
        HadForVoice y = Check.circle();
        lay(y, 7, 1, 12);
        due(46, "makeAll(0, 2, 2): outside, 12 ahead", y.makeAll(0, 2, 2), -12);
        due(46, "what stood ahead was done", y.state(3), 1);
        due(46, "makeAll(0, -1, 2)", y.makeAll(0, -1, 2), -12);
        due(46, "makeAll(0, MAX, 2)", y.makeAll(0, MAX, 2), -12);
        due(46, "makeAll(0, MIN, 2)", y.makeAll(0, MIN, 2), -12);
        due(46, "nothing stood ahead", y.state(3), 1);
        due(46, "none of none", y.makeAll(0, 99, 0), 0);
        due(46, "makeAll(0, 0, 21)", y.makeAll(0, 0, 21), -1);
        due(46, "makeAll(0, 0, -1)", y.makeAll(0, 0, -1), -1);
        due(46, "makeAll(4, 0, 1)", y.makeAll(4, 0, 1), -1);
        due(46, "makeAll(-1, 0, 1)", y.makeAll(-1, 0, 1), -1);
        due(46, "missing", y.makeAll(1, 9, 1), -11);
        for (int sort = 1; sort < 5; sort++) {
            y.sheet(1, sort, 2);
            due(46, "another sort", y.makeAll(1, 9, 1), -13);
        }
    }

    private static void wouldCost() {
        HadForVoice x = Check.circle();
        x.jar(1, 2);
        x.fee(4);
        x.change(0, 3, 14);
        lay(x, 9, 12, 77);
        due(47, "wouldCost(0, 0, 2)", x.wouldCost(0, 0, 2), 14);
        due(47, "wouldCost(0, 1, 1)", x.wouldCost(0, 1, 1), 0);
        due(47, "wouldCost(0, 0, 3): none such", x.wouldCost(0, 0, 3), -4);
        due(47, "wouldCost(0, 0, 4): none such ahead", x.wouldCost(0, 0, 4), -4);
        due(47, "wouldCost(0, 3, 1)", x.wouldCost(0, 3, 1), -12);
        due(47, "nothing was made", x.state(1) + 1000 * x.state(3), 14);
        lay(x, 9, 9);
        due(47, "it couldn't be then", x.wouldCost(0, 0, 2), -4);
        due(47, "outside first", x.wouldCost(0, -1, 3), -12);
        due(47, "wouldCost(0, 1, 2): 9 can be, then outside", x.wouldCost(0, 1, 2), -12);
        due(47, "wouldCost(0, MAX, 2)", x.wouldCost(0, MAX, 2), -12);
        due(47, "none of none", x.wouldCost(0, 99, 0), 0);
        due(47, "wouldCost(0, 0, 21)", x.wouldCost(0, 0, 21), -1);
        due(47, "wouldCost(0, 0, -1)", x.wouldCost(0, 0, -1), -1);
        due(47, "wouldCost(4, 0, 1)", x.wouldCost(4, 0, 1), -1);
        due(47, "missing", x.wouldCost(2, 0, 1), -11);
        x.sheet(2, 4, 5);
        due(47, "another sort", x.wouldCost(2, 9, 1), -13);
    }

    private static void shelfAndTaken() {
        HadForVoice x = Check.circle();
        int[][] as = {{}, {0, 1}, {0, 2}, {0, 2, 3}, {0, 4}, {0, 4, 5}};
        due(48, "shelf(0, 0, 3): no such one", x.shelf(0, 0, 3), -1);
        due(48, "shelf(0, 0, -1)", x.shelf(0, 0, -1), -1);
        due(48, "shelf(4, 0, 0)", x.shelf(4, 0, 0), -1);
        due(48, "shelf(-1, 0, 0)", x.shelf(-1, 0, 0), -1);
        due(48, "shelf(0, 3, 0)", x.shelf(0, 3, 0), -1);
        due(48, "shelf(0, -1, 0)", x.shelf(0, -1, 0), -1);
        due(48, "shelf(0, 1, 4)", x.shelf(0, 1, 4), -1);
        due(48, "shelf(0, 1, -1)", x.shelf(0, 1, -1), -1);
        due(49, "nothing yet", x.taken(0, 0), -11);
        due(48, "shelf(0, 0, 2)", x.shelf(0, 0, 2), 1);
        for (int kind = 1; kind <= 5; kind++) {
            x.remake(2, kind);
            for (int taken = 0; taken <= 5; taken++) {
                int due = -13;
                for (int one : as[kind]) {
                    due = one == taken ? 2 : due;
                }
                due(49, "KIND " + kind + " taken as " + taken, x.taken(0, taken), due);
            }
        }
        due(49, "taken as bytes", x.taken(0, 10), -13);
        due(49, "taken as booleans", x.taken(0, 14), -13);
        due(49, "taken(0, 6)", x.taken(0, 6), -1);
        due(49, "taken(0, 9)", x.taken(0, 9), -1);
        due(49, "taken(0, 15)", x.taken(0, 15), -1);
        due(49, "taken(0, -1)", x.taken(0, -1), -1);
        due(49, "taken(4, 0)", x.taken(4, 0), -1);
        due(49, "taken(-1, 0)", x.taken(-1, 0), -1);
        due(48, "shelf(0, 2, 99)", x.shelf(0, 2, 99), 1);
        due(49, "nothing as a person", x.taken(0, 1), -11);
        due(49, "nothing as bytes", x.taken(0, 10), -11);
        due(49, "nothing, a bad kind", x.taken(0, 7), -1);
        x.keep();
        x.person(1, 0, 1, 0);
        x.shelf(0, 0, 3);
        due(49, "3 is there", x.taken(0, 1), 3);
        x.again();
        due(49, "3 isn't there", x.taken(0, 1), -11);
        due(49, "3 isn't there, as bytes", x.taken(0, 10), -11);
        x.person(2, 0, 1, 0);
        due(49, "another 3 is", x.taken(0, 2), 3);
        x.shelf(3, 0, 0);
        due(49, "PERSON 0", x.taken(3, 1), 0);
        due(49, "PERSON 0 as another", x.taken(3, 2), -13);
    }

    private static void rowsOnShelves() {
        HadForVoice x = new HadForVoice();
        for (int sort = 0; sort < 5; sort++) {
            x.sheet(1, sort, 7 + sort);
            due(48, "shelf(2, 1, 1)", x.shelf(2, 1, 1), 1);
            for (int as = 0; as < 15; as = as == 5 ? 10 : as + 1) {
                due(49, "taken(2, " + as + ")", x.taken(2, as), as == 10 + sort ? 7 + sort : -13);
            }
        }
        x.sheet(1, 0, 2);
        due(49, "the row is held, not the sheet", x.taken(2, 14), 11);
        x.sheet(1, -1, 0);
        due(49, "the row is held, the sheet is missing", x.taken(2, 14), 11);
        due(48, "shelf(2, 1, 1), missing", x.shelf(2, 1, 1), 1);
        due(49, "nothing", x.taken(2, 14), -11);
        due(49, "nothing", x.taken(2, 0), -11);
    }

    private static void act(HadForVoice x, int shelf, int act, int arg, int due, int... bodies) {
        String call = "act(" + shelf + ", " + act + ", " + arg + ") of KIND " + x.personOf(shelf, 0);
        due(50, call, x.act(shelf, act, arg), due);
        due(51, "bodies of " + call, x.many(6), bodies.length);
        for (int i = 0; i < bodies.length; i++) {
            due(51, "trace(" + i + ") of " + call, x.trace(i), bodies[i]);
        }
        due(51, "trace behind the last", x.trace(bodies.length), -3);
        due(51, "trace(-1)", x.trace(-1), -3);
    }

    /** PERSON 2 (n = 2) of each KIND in turn, who NEEDS 7 (a = 7), so that a - n is 5. */
    private static void acts() {
        HadForVoice x = Check.circle();
        x.change(2, 2, 7);
        x.shelf(2, 0, 2);
        act(x, 2, 0, 20, 54, 20, 10);
        act(x, 2, 1, 20, 52, 11, 20, 10);
        act(x, 2, 2, -19, -3, 12);
        act(x, 2, 3, 20, 52 ^ 7, 13, 11, 20, 10);
        act(x, 2, 0, MAX, (MAX + 7) * 2, 20, 10);
        x.remake(2, 2);
        act(x, 2, 0, 20, 27, 10);
        act(x, 2, 1, 20, 25 ^ 2, 30, 11, 10);
        act(x, 2, 1, 22, 25, 30, 11, 10);
        act(x, 2, 2, 19, 3, 12);
        act(x, 2, 3, 20, 25 ^ 2 ^ 7, 13, 30, 11, 10);
        x.remake(2, 3);
        act(x, 2, 0, 20, 26, 50, 10);
        act(x, 2, 1, 20, 24 ^ 2, 30, 11, 50, 10);
        act(x, 2, 2, 25, 5, 12);
        act(x, 2, 3, 20, (24 ^ 2 ^ 7) + 1, 51, 13, 30, 11, 50, 10, 12);
        x.remake(2, 4);
        act(x, 2, 0, 20, 27, 10);
        act(x, 2, 1, 20, 25, 11, 10);
        act(x, 2, 2, 20, 3, 40, 12);
        act(x, 2, 2, MIN, (MIN - 3) / 5, 40, 12);
        act(x, 2, 3, 20, 25 ^ 7, 13, 11, 10);
        x.remake(2, 5);
        act(x, 2, 0, 20, 27, 10);
        act(x, 2, 1, 20, -25, 60, 11, 10);
        act(x, 2, 2, 20, 3 - 9, 61, 40, 12, 10);
        act(x, 2, 3, 20, -25 ^ 7, 13, 60, 11, 10);
        x.change(2, 2, 1);
        x.remake(2, 1);
        act(x, 2, 2, MIN, MIN, 12);
    }

    private static void noActs() {
        HadForVoice x = Check.circle();
        x.keep();
        x.person(1, 0, 1, 0);
        x.shelf(0, 0, 0);
        x.shelf(1, 0, 3);
        x.sheet(0, 2, 5);
        x.shelf(2, 1, 0);
        x.again();
        int[][] none = {{4, 0}, {-1, 0}, {0, 4}, {0, -1}, {1, 0}, {2, 0}, {3, 0}, {MAX, 0}, {0, MIN}};
        for (int[] n : none) {
            due(50, "act(0, 0, 1)", x.act(0, 0, 1), 4);
            due(51, "it left a trace", x.many(6), 2);
            due(50, "no act", x.act(n[0], n[1], 1), 0);
            due(51, "no trace", x.many(6), 0);
            due(51, "no trace", x.trace(0), -3);
        }
    }

    private static void actsParted() {
        HadForVoice x = Check.circle();
        x.shelf(2, 0, 2);
        x.change(2, 2, 2);
        act(x, 2, 2, 5, -15, 12);
        x.remake(2, 3);
        act(x, 2, 3, 5, -15, 51, 13, 30, 11, 50, 10, 12);
        x.remake(2, 4);
        act(x, 2, 2, 5, -15, 40, 12);
        x.remake(2, 5);
        act(x, 2, 2, 5, -15, 61, 40, 12);
        act(x, 2, 0, 5, 7, 10);
        x.change(2, 2, 3);
        act(x, 2, 2, 5, 2 - 5, 61, 40, 12, 10);
        act(x, 2, 0, -18, -15, 10);
    }
}
