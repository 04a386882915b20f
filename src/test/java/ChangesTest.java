/** Promises 14 to 16: CHANGES that are made and taken back. */
public final class ChangesTest {
    private static final Check CHECK = new Check();

    public static void main(String[] args) {
        cans();
        makeExchanges();
        makeWithTheWitch();
        fullJars();
        back();
        backInOtherStates();
        theLedger();
        CHECK.end();
    }

    private static void due(int promise, String call, long got, long want) {
        CHECK.due(promise, call, got, want);
    }

    private static void cans() {
        HadForVoice x = Check.circle();
        x.jar(1, 1);
        x.change(0, 3, 10);
        due(14, "cans(-1)", x.cans(-1), 1);
        due(14, "cans(1)", x.cans(1), 2);
        due(14, "cans(2)", x.cans(2), 9);
        due(14, "cans(9)", x.cans(9), 12);
        due(14, "cans(12)", x.cans(12), -3);
        due(14, "cans(MAX)", x.cans(Integer.MAX_VALUE), -3);
        due(14, "cans(-2)", x.cans(-2), -1);
        due(14, "cans(MIN)", x.cans(Integer.MIN_VALUE), -1);
        x.meets(0, 1, false);
        due(14, "they don't meet", x.cans(-1), 2);
        x.change(2, 1, 0);
        due(14, "none would be whole, or is", x.cans(-1), 9);
        x.change(0, 3, 9);
        due(14, "too few coins", x.cans(-1), -3);
    }

    private static void makeExchanges() {
        HadForVoice x = Check.circle();
        due(15, "make(1, 0)", x.make(1, 0), -1);
        due(15, "make(0, 0)", x.make(0, 0), -1);
        due(15, "make(0, 3)", x.make(0, 3), -1);
        due(15, "make(3, 9)", x.make(3, 9), -1);
        due(15, "make(-1, 9)", x.make(-1, 9), -1);
        due(15, "make(0, 10)", x.make(0, 10), -1);
        due(15, "make(0, -1)", x.make(0, -1), -1);
        due(15, "make(MAX, 9)", x.make(Integer.MAX_VALUE, 9), -1);
        due(15, "make(0, 9), nothing in the jar", x.make(0, 9), -4);
        due(15, "make(0, 1)", x.make(0, 1), 0);
        due(15, "0 has", x.personOf(0, 1), 1);
        due(15, "1 has", x.personOf(1, 1), 0);
        due(15, "who is whole", x.state(0), 1);
        due(15, "make(0, 1) again, 0 is whole", x.make(0, 1), -4);
        due(15, "make(0, 2), 0 is whole", x.make(0, 2), -4);
        due(15, "make(1, 2), both", x.make(1, 2), 0);
        due(15, "who is whole", x.state(0), 7);
        HadForVoice y = Check.circle();
        y.meets(0, 1, false);
        due(15, "they don't meet", y.make(0, 1), -4);
        y.meets(0, 1, true);
        y.change(1, 1, 3);
        due(15, "neither would be whole", y.make(0, 1), -4);
        y.change(1, 2, 0);
        due(15, "the greater one would be", y.make(0, 1), 0);
        due(15, "it is", y.state(0), 2);
    }

    private static void makeWithTheWitch() {
        HadForVoice x = Check.circle();
        x.jar(1, 2);
        x.fee(3);
        due(15, "too few coins", x.make(0, 9), -4);
        x.change(0, 3, 12);
        due(15, "one too few", x.make(0, 9), -4);
        x.change(0, 3, 13);
        due(15, "just so many", x.make(0, 9), 13);
        due(15, "its coins", x.personOf(0, 3), 0);
        due(15, "what it has", x.personOf(0, 1), 1);
        due(15, "the jar of what it got", x.thing(1, 1), 1);
        due(15, "the jar of what it gave", x.thing(0, 1), 1);
        due(15, "it is whole", x.make(0, 9), -4);
    }

    /** With 99 in the JAR of THING 0; people take it there from the one of THING 1. */
    private static HadForVoice withFullJar() {
        HadForVoice x = new HadForVoice();
        x.person(1, 0, 1, 0);
        for (int k = 0; k < 11; k++) {
            x.jar(1, 9);
            for (int i = 0; i < 9; i++) {
                x.make(0, 9);
                x.change(0, 1, 0);
            }
        }
        x.jar(1, 9);
        return x;
    }

    private static void fullJars() {
        HadForVoice x = withFullJar();
        due(15, "99 in the jar", x.thing(0, 1), 99);
        due(15, "no room for what it has", x.make(0, 9), -4);
        due(14, "none can be", x.cans(-1), -3);
        x.change(0, 1, 2);
        due(15, "room for another thing", x.make(0, 9), 0);
        due(24, "jars(), all are whole", x.jars(), -3);
    }

    private static void back() {
        HadForVoice x = Check.circle();
        x.jar(0, 1);
        x.change(1, 3, 5);
        x.change(2, 3, 5);
        due(16, "back() of nothing", x.back(), -3);
        x.make(0, 1);
        x.make(2, 9);
        due(16, "3 in the ledger", x.state(3), 2);
        due(16, "back() of the witch", x.back(), 29);
        due(16, "what it has", x.personOf(2, 1), 2);
        due(16, "the jar of 0", x.thing(0, 1), 1);
        due(16, "the jar of 2", x.thing(2, 1), 0);
        due(16, "back() of an exchange", x.back(), 1);
        due(16, "what 0 has", x.personOf(0, 1), 0);
        due(16, "what 1 has", x.personOf(1, 1), 1);
        due(16, "nobody is whole", x.state(0), 0);
        due(16, "nothing more", x.back(), -3);
        HadForVoice y = Check.circle();
        y.jar(1, 1);
        y.change(0, 3, 100);
        y.make(0, 9);
        due(16, "coins were paid", y.personOf(0, 3), 90);
        due(16, "back()", y.back(), 9);
        due(16, "coins aren't taken back", y.personOf(0, 3), 90);
    }

    private static void backInOtherStates() {
        HadForVoice x = Check.circle();
        x.make(0, 1);
        x.change(0, 1, 5);
        due(16, "0 has another thing", x.back(), -4);
        x.change(0, 1, 1);
        x.change(1, 1, 5);
        due(16, "1 has another thing", x.back(), -4);
        due(16, "it stays in the ledger", x.state(3), 1);
        x.change(1, 1, 0);
        x.meets(0, 1, false);
        x.change(0, 2, 7);
        due(16, "whom they meet and what they need counts nothing", x.back(), 1);
        HadForVoice y = new HadForVoice();
        y.jar(1, 9);
        y.person(1, 0, 1, 0);
        y.make(0, 9);
        y.jar(0, 0);
        due(16, "what was given isn't in its jar", y.back(), -4);
        y.jar(0, 1);
        y.change(0, 1, 2);
        due(16, "it has another thing", y.back(), -4);
        y.change(0, 1, 1);
        due(16, "it can be now", y.back(), 9);
        due(16, "the jar", y.thing(1, 1), 9);
        HadForVoice z = withFullJar();
        z.change(0, 2, 0);
        z.change(0, 1, 1);
        z.make(0, 9);
        due(16, "98", z.thing(0, 1), 98);
        z.person(1, 0, 1, 0);
        z.make(1, 9);
        due(16, "99", z.thing(0, 1), 99);
        z.change(1, 1, 4);
        due(16, "the later one isn't as it was", z.back(), -4);
        z.change(1, 1, 1);
        due(16, "back to 98", z.back(), 19);
        due(16, "98 again", z.thing(0, 1), 98);
        z.change(0, 2, 1);
        z.make(0, 9);
        due(16, "99 again", z.thing(0, 1), 99);
        z.change(0, 1, 0);
        due(16, "not as it was", z.back(), -4);
    }

    private static void theLedger() {
        HadForVoice x = new HadForVoice();
        for (int p = 0; p < 3; p++) {
            x.person(1, 0, 1, 0);
        }
        for (int i = 0; i < 14; i++) {
            x.jar(1, 9);
            x.make(i % 3, 9);
            due(16, "in the ledger", x.state(3), Math.min(12, i + 1));
            due(52, "many(2)", x.many(2), Math.min(12, i + 1));
            x.change(i % 3, 1, 0);
        }
        for (int i = 13; i >= 2; i--) {
            x.change(i % 3, 1, 1);
            due(16, "back()", x.back(), i % 3 * 10 + 9);
        }
        due(16, "the first two fell out", x.back(), -3);
        HadForVoice y = new HadForVoice();
        y.person(1, 0, 1, 0);
        y.person(1, 1, 0, 0);
        y.jar(1, 9);
        for (int i = 0; i < 9; i++) {
            y.make(0, 9);
            y.change(0, 1, 0);
        }
        y.change(0, 1, 2);
        y.change(0, 2, 0);
        y.make(0, 9);
        due(16, "0 gave 2 and got 0", y.thing(2, 1), 1);
        y.make(1, 9);
        due(16, "7 of 0", y.thing(0, 1), 7);
        for (int k = 0; k < 3; k++) {
            y.jar(0, 9);
            y.jar(1, 9);
        }
        due(16, "told 9, and one more", y.back(), 19);
        due(16, "10 of 0", y.thing(0, 1), 10);
        due(16, "8 of 1", y.thing(1, 1), 8);
    }
}
