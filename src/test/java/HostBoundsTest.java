/** Promises 43 to 54, sentence by sentence: at each bound that they name and a step to either side. */
public final class HostBoundsTest {
    private static final Check CHECK = new Check();
    private static final int MIN = Check.MIN;
    private static final int MAX = Check.MAX;

    public static void main(String[] args) {
        allAreZero();
        narrowed();
        itemsAsLowAsRefusals();
        makeAllOfN();
        leftOut();
        bytesAreChanges();
        costOfN();
        byItems();
        missingOrOther();
        personsOnShelves();
        rowsOnShelves();
        takenForAKind();
        quotients();
        partedByZero();
        intsThatWrap();
        aTrace();
        whatIsKept();
        nothingKept();
        CHECK.end();
    }

    private static void due(int promise, String call, long got, long want) {
        CHECK.due(promise, call, got, want);
    }

    /** "A SHEET becomes a row of n of a sort, all 0": n of 0, 1, 39, 40, and what was written is gone. */
    private static void allAreZero() {
        for (int sheet = 0; sheet < 4; sheet++) {
            for (int sort = 0; sort < 5; sort++) {
                HadForVoice x = new HadForVoice();
                for (int n : new int[] {40, 39, 1, 0, 40}) {
                    due(43, "sheet", x.sheet(sheet, sort, n), 1);
                    for (int i = 0; i < n; i++) {
                        due(45, "item " + i + " of " + n, x.item(sheet, sort, i), 0);
                        due(44, "write", x.write(sheet, i, 1), 1);
                        due(45, "item " + i + " of " + n, x.item(sheet, sort, i), 1);
                    }
                    due(45, "item behind the last", x.item(sheet, sort, n), -12);
                }
                due(43, "a size of -1 leaves it", x.sheet(sheet, 2, -1), -14);
                due(43, "a size of 41 leaves it", x.sheet(sheet, 2, 41), -1);
                due(45, "it is as it was", x.item(sheet, sort, 39), 1);
            }
        }
    }

    /** "Narrowed to its sort (booleans: whether it is not 0)"; "of longs the lowest 32 bits; of booleans 1, 0". */
    private static void narrowed() {
        int[] values = {
            0, 1, -1, 2, 126, 127, 128, 129, 255, 256, -127, -128, -129, -256, 32766, 32767, 32768, 65535, 65536,
            -32767, -32768, -32769, -65536, MAX, MAX - 1, MIN, MIN + 1, 0x12345678
        };
        HadForVoice x = new HadForVoice();
        for (int sort = 0; sort < 5; sort++) {
            x.sheet(sort % 4, sort, 2);
            for (int v : values) {
                int[] dues = {(byte) v, (short) v, v, v, v == 0 ? 0 : 1};
                due(44, "write of " + v, x.write(sort % 4, 1, v), 1);
                due(45, v + " of sort " + sort, x.item(sort % 4, sort, 1), dues[sort]);
                due(45, "the one ahead", x.item(sort % 4, sort, 0), 0);
            }
        }
    }

    /** "(An item may be as low as these, too.)" */
    private static void itemsAsLowAsRefusals() {
        HadForVoice x = new HadForVoice();
        for (int sort = 0; sort < 4; sort++) {
            x.sheet(sort, sort, 1);
            for (int v = -15; v < 0; v++) {
                x.write(sort, 0, v);
                due(45, v + " of sort " + sort, x.item(sort, sort, 0), v);
            }
        }
    }

    /** A SHEET 0 of bytes that go on for so many with 9, 19, 29 ... and over again. */
    private static void lay(HadForVoice x, int size) {
        x.sheet(0, 0, size);
        for (int i = 0; i < size; i++) {
            x.write(0, i, 10 * (i % 6) + 9);
        }
    }

    /** "n (0 to 20) items ... from item i on"; "-12: what stood ahead was done". */
    private static void makeAllOfN() {
        for (int size : new int[] {0, 1, 5, 6, 7, 19, 20, 21, 40}) {
            for (int n = 0; n <= 20; n++) {
                for (int i : new int[] {0, 1, size - n - 1, size - n, size - n + 1}) {
                    HadForVoice x = Check.lacking(6, 9);
                    lay(x, size);
                    boolean isOutside = n > 0 && (i < 0 || i + n > size);
                    int ahead = n == 0 || i < 0 ? 0 : Math.max(0, Math.min(n, size - i));
                    String call = "of " + size + " makeAll(0, " + i + ", " + n + ")";
                    due(46, call, x.makeAll(0, i, n), isOutside ? -12 : Math.min(6, n));
                    due(46, "made by " + call, x.state(3), Math.min(6, ahead));
                    HadForVoice y = Check.lacking(6, 9);
                    lay(y, size);
                    int cost = isOutside ? ahead > 6 ? -4 : -12 : n > 6 ? -4 : 0;
                    due(47, "wouldCost by " + call, y.wouldCost(0, i, n), cost);
                    due(47, "made by wouldCost", y.state(3), 0);
                }
            }
        }
        HadForVoice x = Check.lacking(6, 9);
        for (int i : new int[] {MIN, -1, 0, 5, 6, 7, MAX}) {
            lay(x, 6);
            due(46, "none from " + i, x.makeAll(0, i, 0), 0);
            due(47, "none from " + i, x.wouldCost(0, i, 0), 0);
        }
        for (int i : new int[] {MIN, -20, -1, 6, 7, MAX - 19, MAX - 1, MAX}) {
            due(46, "20 from " + i, x.makeAll(0, i, 20), -12);
            due(47, "20 from " + i, x.wouldCost(0, i, 20), -12);
            due(46, "none stood ahead", x.state(3), 0);
        }
    }

    /** "What is none, or can't be then, is left out". */
    private static void leftOut() {
        HadForVoice x = Check.circle();
        int[] items = {0, 10, 11, 3, 39, 60, 69, 99, 127, -1, -119, -128, 19, 1, 1, 12, 12, 2};
        x.sheet(3, 0, items.length);
        for (int i = 0; i < items.length; i++) {
            x.write(3, i, items[i]);
        }
        due(47, "0 is none", x.wouldCost(3, 0, 1), -4);
        due(46, "two of these can be", x.makeAll(3, 0, items.length), 2);
        due(11, "all are WHOLE", x.state(0), 7);
        due(16, "back()", x.back(), 12);
        due(16, "back()", x.back(), 1);
        due(16, "back()", x.back(), -3);
    }

    /** "A SHEET taken for bytes": of 265 the byte is 9, of -247, too; and each byte that is a CHANGE. */
    private static void bytesAreChanges() {
        for (int v = -128; v <= 300; v++) {
            HadForVoice x = Check.lacking(3, 9);
            x.person(1, 1, 0, 0);
            x.meets(0, 3, true);
            x.sheet(0, 0, 1);
            x.write(0, 0, v);
            int b = (byte) v;
            boolean canBe = b == 3 || b == 9 || b == 19 || b == 29;
            due(47, "wouldCost of " + v, x.wouldCost(0, 0, 1), canBe ? 0 : -4);
            due(46, "makeAll of " + v, x.makeAll(0, 0, 1), canBe ? 1 : 0);
        }
    }

    /** "COINS that would be paid if they were made one behind the other". */
    private static void costOfN() {
        HadForVoice x = Check.lacking(6, 9);
        for (int p = 0; p < 6; p++) {
            x.change(p, 3, 50);
        }
        x.fee(7);
        lay(x, 7);
        for (int n = 0; n <= 7; n++) {
            due(47, "wouldCost(0, 0, " + n + ")", x.wouldCost(0, 0, n), n <= 6 ? 7 * n : -4);
        }
        due(47, "nothing was paid", x.state(1), 300);
        x.jar(1, 5);
        due(47, "five of five", x.wouldCost(0, 0, 5), 35);
        due(47, "six of five", x.wouldCost(0, 0, 6), -4);
        x.change(2, 3, 7);
        due(47, "with just so many COINS", x.wouldCost(0, 0, 5), 35);
        x.change(2, 3, 6);
        due(47, "with one too few", x.wouldCost(0, 0, 5), -4);
        due(47, "up to that one", x.wouldCost(0, 0, 2), 14);
        due(47, "behind that one", x.wouldCost(0, 3, 3), 21);
    }

    /** "Then, by items, -12; STATE": which comes first, by its item. */
    private static void byItems() {
        HadForVoice x = Check.lacking(2, 2);
        x.sheet(0, 0, 3);
        int[][] items = {{9, 19, 9}, {9, 9, 19}, {9, 19, 5}};
        int[][] dues = {{0, 0, -4, -4}, {0, -4, -4, -4}, {0, 0, -4, -4}};
        for (int k = 0; k < 3; k++) {
            for (int i = 0; i < 3; i++) {
                x.write(0, i, items[k][i]);
            }
            for (int n = 1; n <= 4; n++) {
                due(47, "row " + k + " of " + n, x.wouldCost(0, 0, n), dues[k][n - 1]);
            }
            due(47, "outside first, row " + k, x.wouldCost(0, -1, 4), -12);
        }
        x.sheet(0, 0, 2);
        x.write(0, 0, 9);
        x.write(0, 1, 19);
        due(47, "both can be, and then outside", x.wouldCost(0, 0, 3), -12);
        x.write(0, 1, 9);
        due(47, "the second can't, ahead of outside", x.wouldCost(0, 0, 3), -4);
        due(47, "the second alone, and then outside", x.wouldCost(0, 1, 2), -12);
    }

    /** "-13; -11" ahead of "-12", and BAD ahead of both. */
    private static void missingOrOther() {
        HadForVoice x = Check.lacking(1, 1);
        for (int i : new int[] {-1, 0, 3, MAX, MIN}) {
            x.sheet(1, -1, 0);
            due(44, "write, missing", x.write(1, i, 1), -11);
            for (int sort = 0; sort < 5; sort++) {
                due(45, "item, missing", x.item(1, sort, i), -11);
            }
            due(45, "item, missing, bad sort", x.item(1, 5, i), -1);
            for (int n = 0; n <= 1; n++) {
                due(46, "makeAll, missing", x.makeAll(1, i, n), -11);
                due(47, "wouldCost, missing", x.wouldCost(1, i, n), -11);
            }
            due(46, "makeAll, missing, 21", x.makeAll(1, i, 21), -1);
            due(47, "wouldCost, missing, 21", x.wouldCost(1, i, 21), -1);
            for (int sort = 0; sort < 5; sort++) {
                x.sheet(1, sort, 3);
                due(44, "write", x.write(1, i, 9), i == 0 ? 1 : -12);
                for (int as = 0; as < 5; as++) {
                    int due = as != sort ? -13 : i != 0 ? -12 : sort == 4 ? 1 : 9;
                    due(45, "item of sort " + sort + " as " + as + " at " + i, x.item(1, as, i), due);
                }
                for (int n = 0; n <= 1 && sort > 0; n++) {
                    due(46, "makeAll of sort " + sort, x.makeAll(1, i, n), -13);
                    due(47, "wouldCost of sort " + sort, x.wouldCost(1, i, n), -13);
                }
            }
        }
        due(46, "nothing was made", x.state(3), 0);
    }

    /** "A PERSON (by its number; nothing, if there is no such one at the time)". */
    private static void personsOnShelves() {
        HadForVoice x = Check.whole(3);
        x.keep();
        Check.feed(x, "more");
        for (int p = 3; p < 6; p++) {
            x.person(1, 0, p, 0);
        }
        for (int shelf = 0; shelf < 4; shelf++) {
            due(48, "shelf(" + shelf + ", 0, " + (shelf + 1) + ")", x.shelf(shelf, 0, shelf + 1), 1);
            due(49, "it is there", x.taken(shelf, 1), shelf + 1);
        }
        due(54, "again()", x.again(), 3);
        for (int shelf = 0; shelf < 4; shelf++) {
            boolean isThere = shelf + 1 < 3;
            due(49, shelf + " as a maid", x.taken(shelf, 1), isThere ? shelf + 1 : -11);
            due(49, shelf + " as a miser", x.taken(shelf, 2), isThere ? -13 : -11);
            due(49, shelf + " as bytes", x.taken(shelf, 10), isThere ? -13 : -11);
            due(50, shelf + " acts", x.act(shelf, 0, 5), isThere ? 10 : 0);
            due(51, shelf + " leaves a TRACE", x.many(6), isThere ? 2 : 0);
            due(48, "no such one", x.shelf(0, 0, 3), -1);
        }
        x.person(5, 0, 3, 0);
        due(49, "another 3 is there", x.taken(2, 5), 3);
        due(49, "4 isn't yet", x.taken(3, 0), -11);
        due(48, "nothing", x.shelf(2, 2, 0), 1);
        due(49, "nothing", x.taken(2, 0), -11);
    }

    /** "The row of SHEET n (1; nothing, if missing)"; "for a row of sort as - 10: how many items". */
    private static void rowsOnShelves() {
        for (int sheet = 0; sheet < 4; sheet++) {
            HadForVoice x = Check.whole(1);
            for (int sort = -1; sort < 5; sort++) {
                for (int n : new int[] {0, 1, 40}) {
                    x.sheet(sheet, sort, n);
                    due(48, "shelf", x.shelf(3 - sheet, 1, sheet), 1);
                    for (int as = 0; as <= 14; as = as == 5 ? 10 : as + 1) {
                        int due = sort < 0 ? -11 : as == 10 + sort ? n : -13;
                        due(49, "sort " + sort + " as " + as, x.taken(3 - sheet, as), due);
                    }
                    due(50, "a row, or nothing, doesn't act", x.act(3 - sheet, 0, 1), 0);
                }
            }
        }
    }

    /** "For a thing of KIND as (0 to 5, or one under it): its number". */
    private static void takenForAKind() {
        String under = "1:01 2:02 3:023 4:04 5:045 ";
        HadForVoice x = Check.whole(6);
        for (int p = 0; p < 6; p++) {
            x.shelf(p % 4, 0, p);
            for (int kind = 1; kind <= 5; kind++) {
                x.remake(p, kind);
                String all = under.substring(under.indexOf(kind + ":") + 2);
                all = all.substring(0, all.indexOf(' '));
                for (int as = 0; as <= 5; as++) {
                    due(49, "KIND " + kind + " as " + as, x.taken(p % 4, as), all.indexOf('0' + as) >= 0 ? p : -13);
                }
            }
        }
    }

    /** A thing of a KIND with number n that NEEDS a, and an ACT of it. */
    private static int act(int kind, int n, int a, int act, int v) {
        HadForVoice x = Check.whole(6);
        x.remake(n, kind);
        x.change(n, 2, a);
        x.shelf(0, 0, n);
        return x.act(0, act, v);
    }

    /** "x by (a - n), the rest away": "quotients are cut towards 0", of both signs. */
    private static void quotients() {
        for (int v = -10; v <= 10; v++) {
            int due = v >= 0 ? v / 5 : -(-v / 5);
            due(50, v + " by 5", act(1, 0, 5, 2, v), due);
            due(50, v + " by -5", act(1, 5, 0, 2, v), -due);
            due(50, v + " by 1", act(1, 1, 2, 2, v), v);
            due(50, v + " by -1", act(1, 2, 1, 2, v), -v);
            due(50, v + " by 5, as a miser", act(2, 0, 5, 2, v), due);
            due(50, v + " by -5, as a widow", act(3, 5, 0, 2, v), -due);
            due(50, v + " by 5, as a prince", act(4, 0, 5, 2, v + 3), due);
            due(50, v + " by 5, as a beast", act(5, 0, 5, 2, v + 3), due - 5);
        }
    }

    /** "(-15 if these are the same; that is all that act() answers then)": a one less, the same, one more. */
    private static void partedByZero() {
        for (int n = 0; n < 6; n++) {
            for (int a = Math.max(0, n - 1); a <= n + 1; a++) {
                int by = a - n;
                for (int kind = 1; kind <= 3; kind++) {
                    due(50, "KIND " + kind + " of " + n + " by " + a, act(kind, n, a, 2, 24), by == 0 ? -15 : 24 * by);
                }
                due(50, "a prince " + n + " by " + a, act(4, n, a, 2, 24), by == 0 ? -15 : 21 * by);
                due(50, "a beast " + n + " by " + a, act(5, n, a, 2, 24), by == 0 ? -15 : 21 * by - n - a);
                int takes = (40 + a - 1 - n ^ n) ^ a;
                due(50, "a widow " + n + " owes by " + a, act(3, n, a, 3, 40), by == 0 ? -15 : takes + a * by);
                due(50, "a miser " + n + " owes by " + a, act(2, n, a, 3, 40), (40 + a - n ^ n) ^ a);
            }
        }
    }

    /** "With a number x (ints that wrap)". */
    private static void intsThatWrap() {
        for (int by = 0; by <= 3; by++) {
            int high = MAX - by;
            int low = MIN + by;
            due(50, "a miser gives MAX - " + by, act(2, 0, 2, 0, high), by >= 2 ? high + 2 : MIN + 1 - by);
            due(50, "a maid gives MAX - " + by, act(1, 0, 2, 0, high), (high + 2) * 2);
            due(50, "a maid gives MIN + " + by, act(1, 0, 2, 0, low), (low + 2) * 2);
            due(50, "a widow gives MIN + " + by, act(3, 0, 0, 0, low), by == 0 ? MAX : low - 1);
            due(50, "a prince takes MIN + " + by, act(4, 2, 0, 1, low), low - 2);
            due(50, "a beast takes MIN + " + by, act(5, 0, 0, 1, low), by == 0 ? MIN : MAX - by + 1);
            due(50, "a prince halves MIN + " + by, act(4, 0, 1, 2, low), by < 3 ? MAX - 2 + by : MIN);
            due(50, "a maid halves MIN + " + by + " by -1", act(1, 1, 0, 2, low), by == 0 ? MIN : MAX - by + 1);
            due(50, "a prince owes MAX - " + by, act(4, 0, 3, 3, high), high + 3 ^ 3);
        }
    }

    /** "As they began (left first)": the trace of i, its last one, and one behind it. */
    private static void aTrace() {
        int[][][] bodies = {
            {}, {{20, 10}, {11, 20, 10}, {12}, {13, 11, 20, 10}}, {{10}, {30, 11, 10}, {12}, {13, 30, 11, 10}},
            {{50, 10}, {30, 11, 50, 10}, {12}, {51, 13, 30, 11, 50, 10, 12}},
            {{10}, {11, 10}, {40, 12}, {13, 11, 10}}, {{10}, {60, 11, 10}, {61, 40, 12, 10}, {13, 60, 11, 10}}
        };
        HadForVoice x = Check.whole(2);
        x.shelf(1, 0, 1);
        for (int kind = 1; kind <= 5; kind++) {
            x.remake(1, kind);
            for (int act = 0; act <= 3; act++) {
                int[] due = bodies[kind][act];
                x.act(1, act, 9);
                due(52, "bodies of " + kind + " by " + act, x.many(6), due.length);
                for (int i = -1; i <= due.length; i++) {
                    due(51, "trace(" + i + ")", x.trace(i), i >= 0 && i < due.length ? due[i] : -3);
                }
                due(51, "trace(30)", x.trace(30), -3);
                due(51, "trace(MAX)", x.trace(MAX), -3);
                due(51, "trace(MIN)", x.trace(MIN), -3);
            }
        }
        for (int act = -1; act <= 4; act += 5) {
            x.act(1, 0, 9);
            due(50, "no such ACT", x.act(1, act, 9), 0);
            due(51, "no TRACE then", x.trace(0), -3);
        }
    }

    /** "All but THE TAPE, ROWS, SHEETS, SHELVES, THE TRACE is kept"; "what was kept latest (which stays)". */
    private static void whatIsKept() {
        HadForVoice x = Check.lacking(2, 2);
        x.prove();
        x.make(0, 9);
        for (int times = 1; times <= 3; times++) {
            due(53, "keep()", x.keep(), 1);
            x.make(1, 9);
            x.person(1, 0, 0, times);
            due(54, "again()", x.again(), 1 + times);
            due(11, "one CHANGE", x.state(3), 1);
            due(11, "one is not WHOLE", x.personOf(1, 5), 0);
            x.back();
            due(54, "again(), which stays", x.again(), 1 + times);
            due(11, "one CHANGE", x.state(3), 1);
            due(52, "ROWS stay", x.many(4), 2);
            x.person(1, 0, 0, times);
        }
    }

    private static void nothingKept() {
        HadForVoice x = Check.whole(2);
        due(54, "nothing is kept", x.again(), -3);
        due(52, "it stays as it is", x.many(0), 2);
        x.keep();
        due(54, "two", x.again(), 2);
        HadForVoice y = new HadForVoice();
        due(53, "nobody, kept", y.keep(), 1);
        due(54, "nobody", y.again(), 0);
        y.person(1, 0, 0, 0);
        due(54, "nobody", y.again(), 0);
        due(2, "the first one again", y.person(2, 0, 0, 0), 0);
    }
}
