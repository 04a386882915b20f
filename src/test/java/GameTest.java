/** Promises 30 to 38: a GAME, REPORTS, lots. */
public final class GameTest {
    private static final Check CHECK = new Check();

    public static void main(String[] args) {
        game();
        badGame();
        reports();
        span();
        liar();
        seedAndDraw();
        often();
        CHECK.end();
    }

    private static void due(int promise, String call, long got, long want) {
        CHECK.due(promise, call, got, want);
    }

    private static void game() {
        HadForVoice x = new HadForVoice();
        due(30, "who begins can't", x.game(6), 1);
        due(31, "none can be", x.play(6), -3);
        x.person(1, 0, 1, 0);
        x.jar(1, 1);
        due(30, "one was made, nobody has lost", x.game(1), 2);
        due(31, "the one", x.play(1), 9);
        due(30, "the other one can't", x.game(2), 0);
        due(30, "the other one can't", x.game(6), 0);
        x.person(1, 0, 2, 0);
        x.jar(2, 1);
        due(30, "two were made", x.game(2), 2);
        due(30, "who begins can't then", x.game(3), 1);
        due(31, "the least of those that lose", x.play(3), 9);
        x.meets(0, 1, true);
        x.change(1, 1, 1);
        x.change(1, 2, 0);
        due(30, "by an exchange both are whole", x.game(3), 0);
        due(31, "that", x.play(3), 1);
        x.change(0, 1, 3);
        x.change(0, 2, 2);
        due(31, "2 can be had by 0 alone", x.play(3), 9);
        HadForVoice y = new HadForVoice();
        y.person(1, 0, 1, 0);
        y.person(1, 1, 0, 0);
        y.meets(0, 1, true);
        y.jar(0, 1);
        y.jar(1, 1);
        due(31, "play(2) wins by the exchange", y.play(2), 1);
        y.person(1, 2, 3, 0);
        y.jar(3, 1);
        due(30, "three: who begins leaves two that can't be exchanged", y.game(6), 0);
        due(31, "by that of 0 or of 1", y.play(6), 9);
        due(30, "two made, nobody", y.game(2), 2);
        due(31, "the least that leads to nobody", y.play(2), 1);
        due(30, "one made, nobody", y.game(1), 2);
    }

    private static void badGame() {
        HadForVoice x = Check.circle();
        for (int n : new int[] {0, 7, -1, Integer.MIN_VALUE, Integer.MAX_VALUE}) {
            due(30, "game(" + n + ")", x.game(n), -1);
            due(31, "play(" + n + ")", x.play(n), -1);
        }
    }

    private static void reports() {
        HadForVoice x = new HadForVoice();
        int[][] bad = {{-1, 0, 0}, {100, 0, 0}, {0, -1, 0}, {0, 100, 0}, {0, 0, -1}, {0, 0, 1000}};
        for (int[] b : bad) {
            due(32, "report that is bad", x.report(b[0], b[1], b[2]), -1);
        }
        due(32, "none there", x.many(3), 0);
        for (int k = 0; k < 6; k++) {
            due(32, "report", x.report(99, 99, 999), k);
        }
        due(32, "the seventh", x.report(0, 0, 0), -2);
        due(32, "bad ahead of full", x.report(0, 0, -1), -1);
        due(33, "forget()", x.forget(), 6);
        due(33, "forget() again", x.forget(), 0);
        due(33, "none there", x.many(3), 0);
        due(32, "from the beginning", x.report(0, 0, 0), 0);
    }

    private static void span() {
        HadForVoice x = new HadForVoice();
        due(34, "span(3)", x.span(3), -1);
        due(34, "span(-1)", x.span(-1), -1);
        x.report(40, 50, 25);
        due(34, "TIMES 0 to 2", x.span(0), 3);
        due(34, "the least TIMES", x.span(1), 0);
        due(34, "its FEE", x.span(2), 25);
        x.report(50, 40, 5);
        due(34, "that with FEE 5", x.span(0), 1);
        due(34, "TIMES", x.span(1), 2);
        due(34, "FEE", x.span(2), 5);
        x.report(0, 1, 8);
        due(34, "none", x.span(0), 0);
        due(34, "none to tell of", x.span(1), -3);
        due(34, "none to tell of", x.span(2), -3);
        due(34, "bad ahead of none", x.span(3), -1);
        x.forget();
        x.report(0, 99, 297 + 50);
        due(34, "3 and 50", x.span(0), 1);
        due(34, "TIMES", x.span(1), 3);
        due(34, "FEE", x.span(2), 50);
        x.forget();
        x.report(9, 9, 51);
        due(34, "no FEE is 51", x.span(0), 0);
        x.forget();
        x.report(9, 9, 50);
        due(34, "TIMES 0 to 3", x.span(0), 4);
        x.forget();
        x.report(50, 51, 0);
        due(34, "TIMES 0 and FEE 0", x.span(0), 1);
        due(34, "TIMES 0", x.span(1), 0);
        due(34, "FEE 0", x.span(2), 0);
        due(35, "it fits", x.liar(), -3);
    }

    private static void liar() {
        HadForVoice x = new HadForVoice();
        due(35, "some fit", x.liar(), -3);
        x.report(0, 0, 51);
        due(35, "without it all would", x.liar(), 0);
        x.report(0, 0, 3);
        due(35, "0 still", x.liar(), 0);
        x.report(0, 0, 52);
        due(35, "two of them: no such one", x.liar(), -3);
        x.forget();
        x.report(0, 0, 3);
        x.report(0, 0, 4);
        due(35, "either: the least", x.liar(), 0);
        x.report(0, 10, 14);
        due(35, "without 0: 1 and 4", x.liar(), 0);
        x.report(0, 5, 8);
        due(35, "3 and 0 fit with 3, 2 doesn't", x.liar(), -3);
        x.forget();
        x.report(0, 10, 13);
        x.report(0, 20, 23);
        x.report(5, 2, 3);
        x.report(0, 30, 34);
        due(35, "the last", x.liar(), 3);
    }

    private static void seedAndDraw() {
        HadForVoice x = Check.circle();
        due(36, "seed(7)", x.seed(7), 1);
        due(36, "seed(MIN)", x.seed(Integer.MIN_VALUE), 7);
        due(36, "seed(-1)", x.seed(-1), Integer.MIN_VALUE);
        int z = -1 * 1103515245 + 12345;
        int[] cans = {1, 2, 12};
        int due = cans[(z >>> 16) % 3];
        due(37, "draw()", x.draw(), due);
        due(37, "it's in the ledger", x.state(3), 1);
        int second = x.draw();
        due(37, "all are whole behind the second", x.state(0), 7);
        due(37, "none can be", x.draw(), -3);
        int after = z * 1103515245 + 12345;
        due(37, "z went on twice, and stayed", x.seed(1), after);
        due(37, "back()", x.back(), second);
        due(37, "back()", x.back(), due);
    }

    private static void often() {
        HadForVoice x = new HadForVoice();
        for (int n : new int[] {0, 61, -1, Integer.MIN_VALUE, Integer.MAX_VALUE}) {
            due(38, "often(" + n + ")", x.often(n), -1);
        }
        due(38, "nobody is always whole", x.often(60), 60);
        HadForVoice y = Check.circle();
        due(38, "a circle always closes", y.often(60), 60);
        due(38, "z is as it was", y.seed(1), 1);
        due(38, "nothing was made", y.many(2), 0);
        y.meets(0, 1, false);
        int z = 1;
        int whole = 0;
        for (int run = 0; run < 20; run++) {
            z = z * 1103515245 + 12345;
            if ((z >>> 16) % 2 == 1) {
                whole++;
                z = z * 1103515245 + 12345;
            }
        }
        due(38, "only 12 ahead of 2 makes all whole", y.often(20), whole);
        due(38, "both come about", whole > 0 && whole < 20 ? 1 : 0, 1);
    }
}
