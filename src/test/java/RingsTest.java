/** Promises 26 to 29: RINGS and BARTER. */
public final class RingsTest {
    private static final Check CHECK = new Check();

    public static void main(String[] args) {
        aRing();
        manyRings();
        badRings();
        barter();
        badBarter();
        CHECK.end();
    }

    private static void due(int promise, String call, long got, long want) {
        CHECK.due(promise, call, got, want);
    }

    private static void aRing() {
        HadForVoice x = Check.circle();
        due(26, "rings(3)", x.rings(3), 1);
        due(26, "rings(2)", x.rings(2), 0);
        due(26, "rings(4)", x.rings(4), 0);
        for (int i = 0; i < 3; i++) {
            due(27, "ring(3, " + i + ")", x.ring(3, i), i);
        }
        due(27, "ring(2, 0)", x.ring(2, 0), -3);
        x.meets(2, 0, false);
        due(26, "the last one doesn't meet the first", x.rings(3), 0);
        due(27, "ring(3, 0)", x.ring(3, 0), -3);
        x.meets(2, 0, true);
        x.change(1, 2, 1);
        due(26, "1 is whole", x.rings(3), 0);
        x.change(1, 2, 0);
        due(26, "two now", x.rings(2), 1);
        due(27, "ring(2, 1)", x.ring(2, 1), 1);
        x.change(1, 2, 1);
        x.change(2, 1, 1);
        due(26, "1 is whole, though 2 has what it needs", x.rings(3), 0);
        due(26, "0 and 2", x.rings(2), 1);
    }

    /** Three who have 0 and need 1, three who have 1 and need 0, all of whom MEET. */
    private static void manyRings() {
        HadForVoice x = new HadForVoice();
        for (int p = 0; p < 6; p++) {
            x.person(1, p % 2, 1 - p % 2, 0);
        }
        for (int p = 0; p < 6; p++) {
            for (int q = p + 1; q < 6; q++) {
                x.meets(p, q, true);
            }
        }
        due(26, "rings(2)", x.rings(2), 9);
        due(26, "rings(3)", x.rings(3), 0);
        due(26, "rings(4): each of 9 sets in both ways", x.rings(4), 18);
        due(26, "rings(5)", x.rings(5), 0);
        due(26, "rings(6)", x.rings(6), 12);
        int[] four = {0, 1, 2, 3};
        for (int i = 0; i < 4; i++) {
            due(27, "ring(4, " + i + ")", x.ring(4, i), four[i]);
        }
        x.meets(0, 1, false);
        int[] six = {0, 3, 2, 1, 4, 5};
        for (int i = 0; i < 6; i++) {
            due(27, "ring(6, " + i + ")", x.ring(6, i), six[i]);
        }
        due(27, "ring(2, 0)", x.ring(2, 0), 0);
        due(27, "ring(2, 1)", x.ring(2, 1), 3);
    }

    private static void badRings() {
        HadForVoice x = Check.circle();
        for (int k : new int[] {1, 7, -1, Integer.MAX_VALUE, Integer.MIN_VALUE}) {
            due(26, "rings(" + k + ")", x.rings(k), -1);
            due(27, "ring(" + k + ", 0)", x.ring(k, 0), -1);
        }
        due(27, "ring(3, 3)", x.ring(3, 3), -1);
        due(27, "ring(3, -1)", x.ring(3, -1), -1);
        due(27, "ring(2, 2), bad ahead of none", x.ring(2, 2), -1);
    }

    /** 0 has a 40; those whom it MEETS have a 30, a 30, a 20; the one with a 20 MEETS another that has a 10. */
    private static void barter() {
        HadForVoice x = Check.things();
        x.worth(4, 30);
        x.person(1, 3, 3, 0);
        x.person(1, 2, 7, 0);
        x.person(1, 4, 7, 0);
        x.person(1, 1, 7, 0);
        x.person(1, 0, 7, 0);
        for (int q = 1; q <= 3; q++) {
            x.meets(0, q, true);
        }
        x.meets(3, 4, true);
        due(28, "comes(0, 0)", x.comes(0, 0), 8);
        due(28, "comes(0, 1)", x.comes(0, 1), 8 + 4 + 16 + 2);
        due(28, "comes(0, 4)", x.comes(0, 4), 8 + 4 + 16 + 2);
        due(28, "comes(3, 0)", x.comes(3, 0), 2);
        due(28, "comes(3, 4)", x.comes(3, 4), 2 + 1);
        due(28, "comes(1, 4), none for less", x.comes(1, 4), 4);
        due(29, "dearest(0, 4)", x.dearest(0, 4), 3);
        x.worth(3, 30);
        due(28, "comes(1, 1)", x.comes(1, 1), 4 + 8);
        due(28, "comes(1, 2), it gives it back", x.comes(1, 2), 4 + 8);
        due(28, "comes(1, 4)", x.comes(1, 4), 4 + 8);
        due(29, "dearest(0, 4), the least of these", x.dearest(0, 4), 2);
        due(29, "dearest(0, 0)", x.dearest(0, 0), 3);
        x.worth(0, 20);
        due(29, "dearest(3, 1), the least of 1 and 0", x.dearest(3, 1), 0);
        x.worth(0, 10);
        due(29, "dearest(2, 1), the least of 4 and 3", x.dearest(2, 1), 3);
        x.change(1, 1, 3);
        due(28, "the same thing isn't exchanged", x.comes(1, 4), 8);
        HadForVoice y = new HadForVoice();
        for (int p = 0; p < 6; p++) {
            y.person(1, p, 7, 0);
            y.worth(p, 50 - 10 * p);
        }
        y.meets(0, 1, true);
        y.meets(0, 2, true);
        due(28, "one by one", y.comes(0, 1), 7);
        y.meets(0, 5, true);
        due(28, "what it left with others costs more", y.comes(0, 4), 39);
        y.worth(1, 25);
        due(28, "a dearer one behind a cheaper one", y.comes(0, 1), 39);
        y.worth(1, 50);
        due(28, "those who don't meet it", y.comes(1, 1), 3);
        due(28, "nor by way of it", y.comes(1, 4), 3);
    }

    private static void badBarter() {
        HadForVoice x = Check.circle();
        for (int n : new int[] {-1, 5, Integer.MIN_VALUE, Integer.MAX_VALUE}) {
            due(28, "comes(0, " + n + ")", x.comes(0, n), -1);
            due(29, "dearest(0, " + n + ")", x.dearest(0, n), -1);
        }
        for (int p : new int[] {-1, 3, Integer.MIN_VALUE, Integer.MAX_VALUE}) {
            due(28, "comes(" + p + ", 1)", x.comes(p, 1), -1);
            due(29, "dearest(" + p + ", 1)", x.dearest(p, 1), -1);
        }
    }
}
