/** Promises 39 to 42: ROWS of a ROW, and THE READER. */
public final class ReaderTest {
    private static final Check CHECK = new Check();

    public static void main(String[] args) {
        proveAndRow();
        alterRow();
        judge();
        proveWithout();
        CHECK.end();
    }

    private static void due(int promise, String call, long got, long want) {
        CHECK.due(promise, call, got, want);
    }

    /** 0 can go to the witch for 13 of its 35 COINS, and 1 and 2, who have 7, can exchange. */
    private static HadForVoice two() {
        HadForVoice x = Check.things();
        x.person(1, 0, 1, 35);
        x.person(1, 1, 2, 7);
        x.person(1, 2, 1, 0);
        x.meets(1, 2, true);
        x.jar(1, 1);
        x.fee(3);
        return x;
    }

    private static void proveAndRow() {
        HadForVoice x = two();
        due(40, "no rows", x.row(0, 0), -9);
        due(42, "nothing isn't right", x.judge(), 0);
        due(39, "prove()", x.prove(), 2);
        due(39, "many(4)", x.many(4), 2);
        int[][] rows = {{9, 29, 1}, {12, 29, 7}};
        for (int k = 0; k < 2; k++) {
            for (int what = 0; what < 3; what++) {
                due(40, "row(" + k + ", " + what + ")", x.row(k, what), rows[k][what]);
            }
        }
        due(40, "row(2, 0)", x.row(2, 0), -9);
        due(40, "row(-1, 0)", x.row(-1, 0), -9);
        due(40, "row(0, 3)", x.row(0, 3), -9);
        due(40, "row(0, -1)", x.row(0, -1), -9);
        due(39, "nothing was made", x.state(1), 42);
        due(39, "nobody is whole", x.state(0), 0);
    }

    private static void alterRow() {
        HadForVoice x = two();
        due(41, "no rows", x.alterRow(0, 0, 1), -9);
        x.prove();
        due(41, "alterRow(1, 0, MIN)", x.alterRow(1, 0, Integer.MIN_VALUE), 12);
        due(41, "it's so now", x.row(1, 0), Integer.MIN_VALUE);
        due(41, "alterRow(1, 0, 12)", x.alterRow(1, 0, 12), Integer.MIN_VALUE);
        due(41, "alterRow(1, 1, -9)", x.alterRow(1, 1, -9), 29);
        due(41, "alterRow(1, 2, 4)", x.alterRow(1, 2, 4), 7);
        due(41, "alterRow(2, 0, 1)", x.alterRow(2, 0, 1), -9);
        due(41, "alterRow(-1, 0, 1)", x.alterRow(-1, 0, 1), -9);
        due(41, "alterRow(0, 3, 1)", x.alterRow(0, 3, 1), -9);
        due(41, "alterRow(0, -1, 1)", x.alterRow(0, -1, 1), -9);
        due(41, "rows are two", x.many(4), 2);
    }

    private static int judged(int k, int what, int v) {
        HadForVoice x = two();
        x.prove();
        x.alterRow(k, what, v);
        return x.judge();
    }

    private static void judge() {
        due(42, "as it was proved", judged(9, 9, 9), 0);
        for (int what = 0; what < 3; what++) {
            due(42, "the first row", judged(0, what, 5), 1);
            due(42, "the second row", judged(1, what, 5), 2);
        }
        due(42, "no change", judged(0, 0, -1), 1);
        due(42, "no change", judged(0, 0, Integer.MAX_VALUE), 1);
        due(42, "no change", judged(0, 0, Integer.MIN_VALUE), 1);
        due(42, "no change: 2 and 1", judged(1, 0, 21), 2);
        HadForVoice x = two();
        x.prove();
        x.alterRow(0, 0, 12);
        x.alterRow(0, 1, 42);
        x.alterRow(0, 2, 6);
        x.alterRow(1, 0, 9);
        due(42, "the other way round", x.judge(), 0);
        x.alterRow(1, 0, 12);
        due(42, "it can't be twice", x.judge(), 2);
        x.prove();
        x.person(1, 0, 3, 0);
        due(42, "the last row leaves one", x.judge(), 2);
        x.change(3, 2, 0);
        due(42, "one more is whole ahead of the first", x.judge(), 1);
        HadForVoice y = two();
        y.prove();
        y.make(0, 9);
        due(42, "from how it is now", y.judge(), 1);
        y.prove();
        due(39, "one row", y.many(4), 1);
        due(42, "right again", y.judge(), 0);
        y.fee(50);
        due(42, "fees count nothing in an exchange", y.judge(), 0);
    }

    private static void proveWithout() {
        HadForVoice x = two();
        x.prove();
        x.meets(1, 2, false);
        due(39, "none is done", x.prove(), -3);
        due(39, "rows stay", x.many(4), 2);
        due(40, "as they were", x.row(0, 0), 9);
        due(42, "the second can't be", x.judge(), 2);
        HadForVoice y = new HadForVoice();
        y.person(1, 0, 0, 0);
        due(39, "all are whole", y.prove(), 0);
        due(40, "no rows", y.row(0, 0), -9);
        due(42, "no rows, all right", y.judge(), 0);
        y.change(0, 2, 1);
        due(42, "no rows, so none that isn't right", y.judge(), 0);
    }
}
