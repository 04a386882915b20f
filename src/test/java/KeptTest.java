/** Promises 52 to 54: how many, and what is kept. */
public final class KeptTest {
    private static final Check CHECK = new Check();

    public static void main(String[] args) {
        many();
        whatIsKept();
        whatIsNot();
        theLatest();
        CHECK.end();
    }

    private static void due(int promise, String call, long got, long want) {
        CHECK.due(promise, call, got, want);
    }

    private static void many() {
        HadForVoice x = Check.circle();
        Check.rules(x, "maid more 1; maid more 2;");
        x.report(1, 2, 3);
        x.prove();
        x.make(0, 1);
        x.feed(0, 5);
        x.shelf(0, 0, 0);
        x.act(0, 3, 1);
        int[] due = {3, 2, 1, 1, 2, 5, 4};
        for (int what = 0; what < 7; what++) {
            due(52, "many(" + what + ")", x.many(what), due[what]);
        }
        due(52, "many(7)", x.many(7), -1);
        due(52, "many(-1)", x.many(-1), -1);
        due(52, "many(MAX)", x.many(Integer.MAX_VALUE), -1);
        due(52, "many(MIN)", x.many(Integer.MIN_VALUE), -1);
    }

    private static void whatIsKept() {
        HadForVoice x = Check.circle();
        x.jar(0, 2);
        x.jar(1, 1);
        x.fee(1);
        x.change(0, 3, 40);
        Check.rules(x, "person if has = 10 more 5;");
        x.report(0, 10, 20);
        x.seed(77);
        x.make(0, 9);
        due(53, "keep()", x.keep(), 1);
        x.person(4, 5, 6, 7);
        x.worth(0, 50);
        x.jar(0, 9);
        x.fee(50);
        x.change(1, 1, 7);
        x.change(1, 2, 3);
        x.change(0, 3, 999);
        x.remake(0, 5);
        x.meets(0, 1, false);
        x.rules();
        x.report(1, 1, 1);
        x.seed(5);
        x.back();
        x.draw();
        due(54, "again()", x.again(), 3);
        due(54, "people", x.many(0), 3);
        due(54, "worth", x.thing(0, 0), 10);
        due(54, "jar", x.thing(0, 1), 3);
        due(54, "the other jar", x.thing(1, 1), 0);
        due(54, "fee", x.state(2), 1);
        due(54, "kind", x.personOf(0, 0), 1);
        due(54, "has", x.personOf(1, 1), 1);
        due(54, "needs", x.personOf(1, 2), 2);
        due(54, "coins", x.personOf(0, 3), 40 - 16);
        due(54, "meets", x.personOf(0, 6), 6);
        due(54, "who is whole", x.state(0), 1);
        due(54, "rules", x.many(1), 1);
        due(54, "reports", x.many(3), 1);
        due(54, "laws", x.span(0), 3);
        due(54, "the ledger", x.many(2), 1);
        due(54, "z", x.seed(78), 77);
        due(54, "back()", x.back(), 9);
        due(54, "asked by the rules", x.personOf(0, 4), 16);
        x.rules();
        due(54, "no rules", x.personOf(0, 4), 11);
        x.make(1, 2);
        x.forget();
        x.report(0, 0, 50);
        due(54, "another ledger", x.back(), 12);
        due(54, "other laws", x.span(0), 4);
        due(54, "again() again", x.again(), 3);
        due(54, "the laws again", x.span(0), 3);
        due(54, "z again", x.seed(78), 77);
        due(54, "the ledger again", x.many(2), 1);
        due(54, "rules again", x.many(1), 1);
        due(54, "back() again", x.back(), 9);
    }

    private static void whatIsNot() {
        HadForVoice x = Check.circle();
        x.sheet(0, 2, 4);
        x.write(0, 1, 8);
        x.shelf(0, 0, 1);
        x.keep();
        Check.feed(x, "maid");
        x.prove();
        x.alterRow(0, 1, 99);
        x.sheet(0, 0, 6);
        x.write(0, 1, 9);
        x.shelf(0, 1, 0);
        x.shelf(1, 0, 2);
        x.act(1, 0, 1);
        x.again();
        due(54, "the tape", x.many(5), 4);
        due(54, "rows", x.row(0, 1), 99);
        due(54, "sheets", x.item(0, 0, 1), 9);
        due(54, "shelves", x.taken(0, 10), 6);
        due(54, "the trace", x.trace(0), 20);
        due(54, "the tape goes on", Check.feed(x, " free;"), 10);
        due(54, "the tape tells", x.rules(), 1);
    }

    private static void theLatest() {
        HadForVoice x = new HadForVoice();
        due(54, "nothing is kept", x.again(), -3);
        x.keep();
        x.person(1, 0, 0, 0);
        x.keep();
        x.person(1, 0, 0, 0);
        due(54, "the latest", x.again(), 1);
        x.again();
        x.person(1, 0, 0, 0);
        x.keep();
        x.person(1, 0, 0, 0);
        due(54, "the latest", x.again(), 2);
        HadForVoice y = new HadForVoice();
        due(54, "nothing is kept by another", y.again(), -3);
        y.keep();
        y.person(1, 1, 2, 3);
        due(54, "nobody was kept", y.again(), 0);
        due(54, "nobody", y.personOf(0, 0), -1);
        due(54, "whole", y.state(0), 0);
    }
}
