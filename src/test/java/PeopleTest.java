/** Promises 1 to 11: people and things. */
public final class PeopleTest {
    private static final Check CHECK = new Check();

    public static void main(String[] args) {
        aNewObject();
        person();
        personOf();
        whatSheAsks();
        change();
        remake();
        meets();
        things();
        state();
        CHECK.end();
    }

    private static void due(int promise, String call, long got, long want) {
        CHECK.due(promise, call, got, want);
    }

    private static void aNewObject() {
        HadForVoice x = new HadForVoice();
        for (int what = 0; what <= 6; what++) {
            due(1, "many(" + what + ")", x.many(what), 0);
        }
        for (int t = 0; t < 8; t++) {
            due(1, "worth at first", x.thing(t, 0), 0);
            due(1, "jar at first", x.thing(t, 1), 0);
        }
        due(1, "fee at first", x.state(2), 0);
        due(1, "z at first", x.seed(5), 1);
        due(1, "again()", x.again(), -3);
        due(1, "span(0) without reports", x.span(0), 204);
        due(1, "sheets are missing", x.item(0, 0, 0), -11);
        due(1, "shelves hold nothing", x.taken(0, 0), -11);
    }

    private static void person() {
        HadForVoice x = new HadForVoice();
        int[][] bad = {
            {0, 0, 0, 0}, {6, 0, 0, 0}, {-1, 0, 0, 0}, {1, -1, 0, 0}, {1, 8, 0, 0}, {1, 0, -1, 0}, {1, 0, 8, 0},
            {1, 0, 0, -1}, {1, 0, 0, 1000}, {Integer.MIN_VALUE, 0, 0, 0}, {1, Integer.MAX_VALUE, 0, 0}
        };
        for (int[] b : bad) {
            due(2, "person that is bad", x.person(b[0], b[1], b[2], b[3]), -1);
        }
        due(2, "nobody came", x.many(0), 0);
        for (int p = 0; p < 6; p++) {
            due(2, "person", x.person(1 + p % 5, 7 - p, p, p == 0 ? 999 : p), p);
        }
        due(2, "the seventh", x.person(1, 0, 0, 0), -2);
        due(2, "bad ahead of full", x.person(0, 0, 0, 0), -1);
        due(2, "six are there", x.many(0), 6);
        due(2, "kind", x.personOf(5, 0), 1);
        due(2, "has", x.personOf(5, 1), 2);
        due(2, "needs", x.personOf(5, 2), 5);
        due(2, "coins", x.personOf(0, 3), 999);
    }

    private static void personOf() {
        HadForVoice x = Check.circle();
        x.person(3, 4, 4, 17);
        due(3, "personOf(3, 0)", x.personOf(3, 0), 3);
        due(3, "personOf(3, 1)", x.personOf(3, 1), 4);
        due(3, "personOf(3, 2)", x.personOf(3, 2), 4);
        due(3, "personOf(3, 3)", x.personOf(3, 3), 17);
        due(3, "personOf(3, 5)", x.personOf(3, 5), 1);
        due(3, "personOf(0, 5)", x.personOf(0, 5), 0);
        due(3, "personOf(3, 6)", x.personOf(3, 6), 0);
        due(3, "personOf(1, 6)", x.personOf(1, 6), 5);
        due(3, "personOf(0, 7)", x.personOf(0, 7), -1);
        due(3, "personOf(0, -1)", x.personOf(0, -1), -1);
        due(3, "personOf(4, 0)", x.personOf(4, 0), -1);
        due(3, "personOf(-1, 0)", x.personOf(-1, 0), -1);
    }

    private static void whatSheAsks() {
        HadForVoice x = Check.things();
        x.fee(5);
        for (int kind = 1; kind <= 5; kind++) {
            x.person(kind, 0, 3, 129);
        }
        due(3, "a maid is asked", x.personOf(0, 4), 35);
        due(3, "a miser is asked", x.personOf(1, 4), 23);
        due(3, "a widow is asked half", x.personOf(2, 4), 11);
        due(3, "a prince is asked", x.personOf(3, 4), 70);
        due(3, "a beast is asked", x.personOf(4, 4), 63);
        x.change(0, 1, 3);
        due(3, "a whole maid is asked the fee", x.personOf(0, 4), 5);
        due(3, "a widow is asked all, one is whole", x.personOf(2, 4), 23);
        x.change(3, 2, 1);
        x.change(3, 1, 3);
        due(3, "no less than 0 and the fee, twice", x.personOf(3, 4), 10);
        x.fee(3);
        x.change(4, 1, 3);
        due(3, "a beast is asked 0 at least", x.personOf(4, 4), 0);
        x.change(1, 3, 999);
        due(3, "a miser is asked 0 at least", x.personOf(1, 4), 0);
    }

    private static void change() {
        HadForVoice x = Check.circle();
        due(4, "change(0, 1, 7)", x.change(0, 1, 7), 0);
        due(4, "change(0, 1, 6)", x.change(0, 1, 6), 7);
        due(4, "change(0, 2, 6)", x.change(0, 2, 6), 1);
        due(4, "it is whole now", x.state(0), 1);
        due(4, "change(0, 2, 0)", x.change(0, 2, 0), 6);
        due(4, "it isn't whole now", x.state(0), 0);
        due(4, "change(0, 3, 999)", x.change(0, 3, 999), 0);
        due(4, "change(0, 3, 0)", x.change(0, 3, 0), 999);
        due(4, "change(0, 3, 1000)", x.change(0, 3, 1000), -1);
        due(4, "change(0, 3, -1)", x.change(0, 3, -1), -1);
        due(4, "change(0, 1, 8)", x.change(0, 1, 8), -1);
        due(4, "change(0, 2, 8)", x.change(0, 2, 8), -1);
        due(4, "change(0, 2, -1)", x.change(0, 2, -1), -1);
        due(4, "change(0, 0, 1)", x.change(0, 0, 1), -1);
        due(4, "change(0, 4, 1)", x.change(0, 4, 1), -1);
        due(4, "change(3, 1, 1)", x.change(3, 1, 1), -1);
        due(4, "change(-1, 1, 1)", x.change(-1, 1, 1), -1);
        due(4, "still as it was", x.personOf(0, 1), 6);
    }

    private static void remake() {
        HadForVoice x = Check.circle();
        due(5, "remake(0, 5)", x.remake(0, 5), 1);
        due(5, "remake(0, 2)", x.remake(0, 2), 5);
        due(5, "it is one", x.personOf(0, 0), 2);
        due(5, "remake(0, 0)", x.remake(0, 0), -1);
        due(5, "remake(0, 6)", x.remake(0, 6), -1);
        due(5, "remake(3, 1)", x.remake(3, 1), -1);
        due(5, "remake(-1, 1)", x.remake(-1, 1), -1);
        due(5, "nothing else changed", x.personOf(0, 6), 6);
    }

    private static void meets() {
        HadForVoice x = Check.circle();
        due(6, "meets(2, 0, true)", x.meets(2, 0, true), 1);
        due(6, "meets(2, 0, false)", x.meets(2, 0, false), 1);
        due(6, "meets(0, 2, false)", x.meets(0, 2, false), 0);
        due(6, "those whom 0 meets", x.personOf(0, 6), 2);
        due(6, "those whom 2 meets", x.personOf(2, 6), 2);
        due(6, "meets(2, 0, true)", x.meets(2, 0, true), 0);
        due(6, "those whom 0 meets", x.personOf(0, 6), 6);
        due(6, "meets(1, 2, true)", x.meets(1, 2, true), 1);
        due(6, "meets(1, 1, true)", x.meets(1, 1, true), -1);
        due(6, "meets(0, 3, true)", x.meets(0, 3, true), -1);
        due(6, "meets(3, 0, true)", x.meets(3, 0, true), -1);
        due(6, "meets(-1, 0, true)", x.meets(-1, 0, true), -1);
        due(6, "meets(0, -1, true)", x.meets(0, -1, true), -1);
    }

    private static void things() {
        HadForVoice x = Check.circle();
        x.person(1, 0, 0, 5);
        due(7, "worth(7, 99)", x.worth(7, 99), 0);
        due(7, "worth(7, 0)", x.worth(7, 0), 99);
        due(7, "worth(7, 100)", x.worth(7, 100), -1);
        due(7, "worth(7, -1)", x.worth(7, -1), -1);
        due(7, "worth(8, 1)", x.worth(8, 1), -1);
        due(7, "worth(-1, 1)", x.worth(-1, 1), -1);
        due(8, "jar(7, 9)", x.jar(7, 9), 0);
        due(8, "jar(7, 2)", x.jar(7, 2), 9);
        due(8, "jar(7, 10)", x.jar(7, 10), -1);
        due(8, "jar(7, -1)", x.jar(7, -1), -1);
        due(8, "jar(8, 1)", x.jar(8, 1), -1);
        due(8, "jar(-1, 1)", x.jar(-1, 1), -1);
        due(9, "fee(50)", x.fee(50), 0);
        due(9, "fee(7)", x.fee(7), 50);
        due(9, "fee(51)", x.fee(51), -1);
        due(9, "fee(-1)", x.fee(-1), -1);
        due(9, "still 7", x.state(2), 7);
        due(10, "thing(1, 0)", x.thing(1, 0), 20);
        due(10, "thing(7, 1)", x.thing(7, 1), 2);
        due(10, "thing(0, 2)", x.thing(0, 2), 9);
        due(10, "thing(0, 3)", x.thing(0, 3), 12);
        due(10, "thing(0, 4)", x.thing(0, 4), -1);
        due(10, "thing(0, -1)", x.thing(0, -1), -1);
        due(10, "thing(8, 0)", x.thing(8, 0), -1);
        due(10, "thing(-1, 0)", x.thing(-1, 0), -1);
    }

    private static void state() {
        HadForVoice x = Check.circle();
        x.person(1, 5, 5, 100);
        x.change(1, 3, 23);
        x.fee(4);
        due(11, "state(0)", x.state(0), 8);
        due(11, "state(1)", x.state(1), 123);
        due(11, "state(2)", x.state(2), 4);
        due(11, "state(3)", x.state(3), 0);
        x.make(0, 1);
        due(11, "state(3)", x.state(3), 1);
        due(11, "state(4)", x.state(4), -1);
        due(11, "state(-1)", x.state(-1), -1);
    }
}
