/** Promises 17 to 25: ROWS of CHANGES. */
public final class RowsTest {
    private static final Check CHECK = new Check();

    public static void main(String[] args) {
        nobody();
        aCircle();
        cheapAndShort();
        theOrderOfRows();
        longRows();
        priceOfAWidow();
        bars();
        leftOutInRules();
        jars();
        feeFor();
        bad();
        nothingChanges();
        CHECK.end();
    }

    private static void due(int promise, String call, long got, long want) {
        CHECK.due(promise, call, got, want);
    }

    private static void nobody() {
        HadForVoice x = new HadForVoice();
        due(17, "fewest()", x.fewest(), 0);
        due(18, "ith(0)", x.ith(0), -3);
        due(19, "ways(6)", x.ways(6), 1);
        due(20, "most(6)", x.most(6), 0);
        due(21, "cheapest(0)", x.cheapest(0), 0);
        due(22, "cheaply(6, 0)", x.cheaply(6, 0), -3);
        due(23, "bars()", x.bars(), 0);
        due(24, "jars()", x.jars(), -3);
        due(25, "feeFor(1)", x.feeFor(1), 50);
    }

    /** Of three in a circle any two exchange, then the third one and who isn't whole yet: two CHANGES, three ways. */
    private static void aCircle() {
        HadForVoice x = Check.circle();
        due(17, "fewest()", x.fewest(), 2);
        due(18, "ith(0)", x.ith(0), 1);
        due(18, "ith(1)", x.ith(1), 12);
        due(18, "ith(2)", x.ith(2), -3);
        due(19, "ways(0)", x.ways(0), 0);
        due(19, "ways(1)", x.ways(1), 0);
        due(19, "ways(2)", x.ways(2), 3);
        due(19, "ways(6)", x.ways(6), 3);
        due(20, "most(0)", x.most(0), 0);
        due(20, "most(1)", x.most(1), 1);
        due(20, "most(2)", x.most(2), 3);
        due(21, "cheapest(1)", x.cheapest(1), -3);
        due(21, "cheapest(2)", x.cheapest(2), 0);
        due(22, "cheaply(2, 0)", x.cheaply(2, 0), 1);
        due(22, "cheaply(2, 1)", x.cheaply(2, 1), 12);
        due(22, "cheaply(2, 2)", x.cheaply(2, 2), -3);
        due(22, "cheaply(1, 0)", x.cheaply(1, 0), -3);
        x.meets(0, 1, false);
        due(17, "fewest() without a meeting", x.fewest(), 2);
        due(18, "ith(0) without a meeting", x.ith(0), 12);
        due(18, "ith(1) without a meeting", x.ith(1), 2);
        x.meets(0, 2, false);
        due(17, "fewest() with one meeting", x.fewest(), -3);
        due(18, "ith(0) with one meeting", x.ith(0), -3);
        due(20, "most(6) with one meeting", x.most(6), 1);
    }

    /** Two that could exchange for nothing by way of a third one, or in one CHANGE each with the witch. */
    private static void cheapAndShort() {
        HadForVoice x = Check.things();
        x.person(1, 0, 1, 100);
        x.person(1, 1, 0, 100);
        x.jar(0, 1);
        x.jar(1, 1);
        x.fee(2);
        due(17, "only the witch", x.fewest(), 2);
        due(18, "0 first", x.ith(0), 9);
        due(18, "then 1", x.ith(1), 19);
        due(19, "in any order", x.ways(2), 2);
        due(21, "cheapest(2): 12 and 2", x.cheapest(2), 14);
        x.meets(0, 1, true);
        due(17, "or one exchange", x.fewest(), 1);
        due(18, "that", x.ith(0), 1);
        due(18, "that alone", x.ith(1), -3);
        due(19, "one more way", x.ways(2), 3);
        due(19, "one of one", x.ways(1), 1);
        due(21, "for nothing", x.cheapest(2), 0);
        due(22, "by the exchange", x.cheaply(6, 0), 1);
        x.meets(0, 1, false);
        x.person(2, 0, 1, 200);
        x.meets(1, 2, true);
        due(17, "two exchange, one goes to the witch", x.fewest(), 2);
        due(18, "0 first", x.ith(0), 9);
        due(18, "then they", x.ith(1), 12);
        due(21, "12", x.cheapest(6), 12);
        due(21, "12 by two", x.cheapest(2), 12);
        x.jar(1, 2);
        x.jar(0, 0);
        due(21, "a miser pays nothing: but 1 needs 0 for 2", x.cheapest(3), 12);
        x.fee(0);
        due(21, "1 pays nothing, 0 pays 10", x.cheapest(3), 10);
        due(17, "by two still", x.fewest(), 2);
        due(22, "the first that cost so much", x.cheaply(3, 0), 9);
        due(22, "goes on", x.cheaply(3, 1), 12);
        due(22, "or the other", x.cheaply(3, 2), -3);
    }

    private static void theOrderOfRows() {
        HadForVoice x = new HadForVoice();
        x.person(1, 0, 1, 9);
        x.person(1, 1, 0, 9);
        x.person(1, 2, 3, 9);
        x.person(1, 3, 2, 9);
        x.meets(0, 1, true);
        x.meets(2, 3, true);
        for (int t = 0; t < 4; t++) {
            x.jar(t, 1);
        }
        due(17, "fewest()", x.fewest(), 2);
        due(18, "ith(0)", x.ith(0), 1);
        due(18, "ith(1)", x.ith(1), 23);
        due(19, "ways(2)", x.ways(2), 2);
        due(19, "ways(3)", x.ways(3), 2 + 2 * 6);
        due(19, "ways(4)", x.ways(4), 2 + 2 * 6 + 24);
        due(19, "ways(6)", x.ways(6), 2 + 2 * 6 + 24);
        due(21, "all for nothing", x.cheapest(4), 0);
        due(22, "the first of all of these", x.cheaply(4, 0), 1);
        due(22, "by number, not by length", x.cheaply(4, 1), 23);
        x.meets(0, 1, false);
        due(22, "3 now", x.cheaply(4, 0), 9);
        due(22, "3 now", x.cheaply(4, 1), 19);
        due(22, "3 now", x.cheaply(4, 2), 23);
        due(22, "no fourth", x.cheaply(4, 3), -3);
        due(22, "too few", x.cheaply(2, 0), -3);
        x.worth(3, 1);
        due(21, "23 costs nothing", x.cheapest(4), 0);
        x.meets(2, 3, false);
        due(21, "29 costs 1", x.cheapest(4), 1);
        due(22, "all four", x.cheaply(4, 3), 39);
        due(22, "there is no fifth", x.cheaply(4, 4), -3);
    }

    private static void longRows() {
        HadForVoice x = new HadForVoice();
        for (int p = 0; p < 6; p++) {
            x.person(1, 0, 1, 0);
        }
        x.jar(1, 6);
        due(17, "six with the witch", x.fewest(), 6);
        due(18, "ith(5)", x.ith(5), 59);
        due(19, "in any order", x.ways(6), 720);
        due(19, "not by five", x.ways(5), 0);
        due(20, "most(5)", x.most(5), 5);
        due(21, "cheapest(5)", x.cheapest(5), -3);
        due(21, "cheapest(6)", x.cheapest(6), 0);
        due(22, "cheaply(6, 5)", x.cheaply(6, 5), 59);
        x.jar(1, 5);
        due(17, "one too few", x.fewest(), -3);
        due(20, "most(6)", x.most(6), 5);
        due(23, "without anyone", x.bars(), 63);
        due(24, "one more of 1", x.jars(), 1);
    }

    /** What a widow is asked is more as soon as anybody is WHOLE, so she must go first. */
    private static void priceOfAWidow() {
        HadForVoice x = Check.things();
        x.person(1, 0, 1, 10);
        x.person(3, 0, 3, 15);
        x.jar(1, 1);
        x.jar(3, 1);
        due(17, "fewest()", x.fewest(), 2);
        due(18, "the widow first", x.ith(0), 19);
        due(18, "then the maid", x.ith(1), 9);
        due(19, "the one way", x.ways(6), 1);
        due(21, "what it cost", x.cheapest(2), 14 + 10);
        x.change(0, 1, 1);
        due(20, "the widow can't now", x.most(6), 1);
        due(23, "she bars it, or the maid: but for her nobody is whole", x.bars(), 3);
        x.person(1, 2, 2, 0);
        due(23, "but for one of two that are whole there is still the other one", x.bars(), 2);
    }

    private static void bars() {
        HadForVoice x = Check.circle();
        due(23, "all can be whole", x.bars(), 0);
        x.person(1, 3, 4, 0);
        due(23, "but for 3", x.bars(), 8);
        x.person(1, 3, 4, 0);
        due(23, "two of them", x.bars(), 0);
        HadForVoice y = Check.things();
        y.person(1, 0, 1, 0);
        due(23, "but for one alone nobody is left", y.bars(), 1);
        y.person(1, 2, 0, 0);
        y.meets(0, 1, true);
        due(23, "1 can be whole with 0 alone, and 0 not at all", y.bars(), 0);
        y.person(1, 1, 0, 0);
        y.meets(0, 2, true);
        due(23, "0 and 2 exchange, but for 1", y.bars(), 2);
    }

    /** Who is left out isn't one of those of whom a RULE asks how many are WHOLE. */
    private static void leftOutInRules() {
        HadForVoice x = Check.things();
        x.person(1, 0, 1, 10);
        x.person(1, 1, 1, 0);
        x.person(1, 2, 2, 0);
        x.jar(1, 1);
        Check.rules(x, "maid if whole = 2 more 1;");
        due(23, "but for 1 or 2 one is whole; but for 0 all are", x.bars(), 7);
        Check.rules(x, "maid if whole > 0 more 1;");
        due(23, "one of the two is there still", x.bars(), 1);
        x.change(1, 1, 0);
        x.change(1, 3, 10);
        x.jar(1, 2);
        due(23, "but for 2 one of them goes, and is there for the other one", x.bars(), 0);
        Check.rules(x, "maid if number = 0 and whole < 2 more 1;");
        due(23, "1 goes, then 0", x.bars(), 0);
        x.change(2, 2, 3);
        due(23, "2 can't be whole, but for it one alone is ahead of 0", x.bars(), 0);
        Check.rules(x, "maid if number = 0 and whole > 0 more 1;");
        due(23, "0 goes, then 1, but 2 can't", x.bars(), 4);
        x.change(2, 1, 3);
        due(23, "2 is whole, so that 0 can't go", x.bars(), 5);
        due(23, "all are there behind it", x.personOf(0, 4), 11);
    }

    private static void jars() {
        HadForVoice x = Check.things();
        x.person(1, 0, 1, 50);
        x.person(1, 0, 2, 50);
        due(24, "one or the other: the least", x.jars(), 1);
        x.change(0, 2, 3);
        due(24, "one or the other: the least", x.jars(), 2);
        x.change(1, 3, 5);
        due(24, "1 can't pay", x.jars(), 3);
        x.jar(3, 1);
        due(24, "none lets be more", x.jars(), -3);
        x.change(1, 2, 1);
        x.change(1, 3, 50);
        due(24, "1 again", x.jars(), 1);
        x.person(1, 1, 4, 0);
        x.person(1, 4, 1, 0);
        x.meets(1, 3, true);
        due(24, "2 takes it and gives 1, which 1 takes", x.jars(), 4);
        x.worth(4, 0);
        x.worth(1, 0);
        x.person(1, 5, 6, 50);
        due(24, "3 takes it and gives 4, 2 gives 1 again", x.jars(), 1);
    }

    private static void feeFor() {
        HadForVoice x = Check.things();
        x.person(1, 0, 3, 47);
        x.jar(3, 1);
        due(25, "30 and 17", x.feeFor(1), 17);
        x.change(0, 3, 30);
        due(25, "30 and 0", x.feeFor(6), 0);
        x.change(0, 3, 29);
        due(25, "none", x.feeFor(6), -3);
        x.change(0, 3, 80);
        due(25, "the greatest", x.feeFor(6), 50);
        x.fee(50);
        x.remake(0, 4);
        due(25, "a prince: whatever the fee is now", x.feeFor(6), 10);
        x.person(1, 0, 3, 31);
        due(25, "too few by one", x.feeFor(1), -3);
        x.jar(3, 2);
        due(25, "1 by two", x.feeFor(2), 1);
        HadForVoice y = Check.circle();
        y.fee(50);
        due(25, "exchanges are for nothing", y.feeFor(2), 50);
        due(25, "but they are two", y.feeFor(1), -3);
    }

    private static void bad() {
        HadForVoice x = Check.circle();
        for (int n : new int[] {-1, 7, Integer.MIN_VALUE, Integer.MAX_VALUE}) {
            due(19, "ways(" + n + ")", x.ways(n), -1);
            due(20, "most(" + n + ")", x.most(n), -1);
            due(21, "cheapest(" + n + ")", x.cheapest(n), -1);
            due(22, "cheaply(" + n + ", 0)", x.cheaply(n, 0), -1);
            due(25, "feeFor(" + n + ")", x.feeFor(n), -1);
        }
        due(25, "feeFor(0)", x.feeFor(0), -1);
        for (int i : new int[] {-1, 6, Integer.MIN_VALUE, Integer.MAX_VALUE}) {
            due(18, "ith(" + i + ")", x.ith(i), -1);
            due(22, "cheaply(6, " + i + ")", x.cheaply(6, i), -1);
        }
    }

    private static void nothingChanges() {
        HadForVoice x = Check.circle();
        x.jar(0, 3);
        x.change(2, 3, 50);
        x.fewest();
        x.ith(0);
        x.ways(6);
        x.most(6);
        x.cheapest(6);
        x.cheaply(6, 0);
        x.bars();
        x.jars();
        x.feeFor(6);
        x.game(6);
        x.play(6);
        x.often(60);
        x.rings(3);
        x.comes(2, 4);
        for (int p = 0; p < 3; p++) {
            due(17, "what it has", x.personOf(p, 1), p);
        }
        due(17, "coins", x.state(1), 50);
        due(17, "the ledger", x.state(3), 0);
        due(17, "the fee", x.state(2), 0);
        due(17, "the jar", x.thing(0, 1), 3);
        due(38, "z", x.seed(1), 1);
    }
}
