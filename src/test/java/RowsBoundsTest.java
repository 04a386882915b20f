/** Promises 17 to 25 and 39 to 42, sentence by sentence: at each bound that they name and a step to either side. */
public final class RowsBoundsTest {
    private static final Check CHECK = new Check();

    public static void main(String[] args) {
        byTheWitchAlone();
        someAreWhole();
        theLongerIsCheaper();
        theShorterIsLater();
        withJustSoManyCoins();
        theLesserNumber();
        whoBars();
        whichJar();
        ofSeveralTheLeast();
        greatestFee();
        feeOfAll();
        rowsOfAll();
        theReader();
        theLastRow();
        CHECK.end();
    }

    private static void due(int promise, String call, long got, long want) {
        CHECK.due(promise, call, got, want);
    }

    /** Of so many who can go to the witch alone: ROWS of n less, just so many, and more; and one too few in the JAR. */
    private static void byTheWitchAlone() {
        int[] orders = {1, 1, 2, 6, 24, 120, 720};
        for (int many = 0; many <= 6; many++) {
            for (int jar = Math.max(0, many - 1); jar <= many + 1; jar++) {
                HadForVoice x = Check.lacking(many, jar);
                boolean isDone = jar >= many;
                String who = many + " with " + jar + " in the jar: ";
                due(17, who + "fewest()", x.fewest(), isDone ? many : -3);
                for (int i = 0; i < 6; i++) {
                    due(18, who + "ith(" + i + ")", x.ith(i), isDone && i < many ? 10 * i + 9 : -3);
                }
                for (int n = 0; n <= 6; n++) {
                    boolean isDoneBy = isDone && n >= many;
                    due(19, who + "ways(" + n + ")", x.ways(n), isDoneBy ? orders[many] : 0);
                    due(20, who + "most(" + n + ")", x.most(n), Math.min(n, Math.min(many, jar)));
                    due(21, who + "cheapest(" + n + ")", x.cheapest(n), isDoneBy ? 0 : -3);
                    for (int i = 0; i < 6; i++) {
                        int cheaply = isDoneBy && i < many ? 10 * i + 9 : -3;
                        due(22, who + "cheaply(" + n + ", " + i + ")", x.cheaply(n, i), cheaply);
                    }
                    if (n > 0) {
                        due(25, who + "feeFor(" + n + ")", x.feeFor(n), !isDoneBy ? -3 : many == 0 ? 50 : 0);
                    }
                }
            }
        }
    }

    /** "It ends where all are WHOLE ... (the empty one, if they are now)": so many of six are already. */
    private static void someAreWhole() {
        for (int many = 0; many <= 6; many++) {
            HadForVoice x = Check.lacking(6, 9);
            for (int p = 0; p < many; p++) {
                x.change(p, 1, 1);
            }
            int left = 6 - many;
            due(17, many + " are: fewest()", x.fewest(), left);
            due(18, many + " are: ith(0)", x.ith(0), left == 0 ? -3 : 10 * many + 9);
            for (int n = 0; n <= 6; n++) {
                due(20, many + " are: most(" + n + ")", x.most(n), Math.min(6, many + n));
                due(21, many + " are: cheapest(" + n + ")", x.cheapest(n), n >= left ? 0 : -3);
                due(19, many + " are: ways(" + n + ") is none", x.ways(n) == 0 ? 1 : 0, n >= left ? 0 : 1);
            }
            due(23, many + " are: bars()", x.bars(), 0);
            due(24, many + " are: jars()", x.jars(), -3);
        }
    }

    /** What the FIRST shortest ROW is, and how long. */
    private static void row(HadForVoice x, int... row) {
        due(17, "fewest()", x.fewest(), row.length);
        for (int i = 0; i < 6; i++) {
            due(18, "ith(" + i + ")", x.ith(i), i < row.length ? row[i] : -3);
        }
    }

    /** What the least COST is of n CHANGES or fewer, and the FIRST ROW of that. */
    private static void cheap(HadForVoice x, int n, int cost, int... row) {
        due(21, "cheapest(" + n + ")", x.cheapest(n), cost);
        for (int i = 0; i < 6; i++) {
            due(22, "cheaply(" + n + ", " + i + ")", x.cheaply(n, i), i < row.length ? row[i] : -3);
        }
    }

    /** "Of n or fewer": 0 and 1 exchange, 2 pays 10; or 0 goes to the witch, 1 and 2 exchange, 1 goes for free. */
    private static void theLongerIsCheaper() {
        HadForVoice x = new HadForVoice();
        x.worth(0, 10);
        x.worth(1, 10);
        x.person(1, 0, 1, 0);
        x.person(1, 1, 0, 0);
        x.person(1, 2, 1, 10);
        x.meets(0, 1, true);
        x.meets(1, 2, true);
        x.jar(1, 1);
        Check.rules(x, "maid if number = 1 free;");
        row(x, 1, 29);
        int[] ways = {0, 0, 2, 5, 5, 5, 5};
        for (int n = 0; n <= 6; n++) {
            due(19, "ways(" + n + "): 1 and 29; 9, 19, 29; 12 and 9, then 19", x.ways(n), ways[n]);
            if (n < 2) {
                cheap(x, n, -3);
            } else if (n == 2) {
                cheap(x, n, 10, 1, 29);
            } else {
                cheap(x, n, 0, 9, 12, 19);
            }
        }
    }

    /** The FIRST of all that cost nothing is a long one; the shortest is not the FIRST of all. */
    private static void theShorterIsLater() {
        HadForVoice x = new HadForVoice();
        x.person(1, 0, 7, 0);
        x.person(1, 1, 0, 0);
        x.person(1, 0, 1, 0);
        x.meets(0, 1, true);
        x.meets(1, 2, true);
        x.jar(7, 1);
        row(x, 9, 12);
        cheap(x, 1, -3);
        cheap(x, 2, 0, 9, 12);
        for (int n = 3; n <= 6; n++) {
            cheap(x, n, 0, 1, 9, 29);
        }
        due(39, "prove()", x.prove(), 2);
        due(40, "row(0, 0)", x.row(0, 0), 9);
        due(40, "row(1, 0)", x.row(1, 0), 12);
        x.meets(1, 2, false);
        row(x, 1, 9, 29);
    }

    /** "Its COINS are WHAT SHE ASKS or more", in a ROW: one too few, just so many, one more. */
    private static void withJustSoManyCoins() {
        for (int coins = 11; coins <= 13; coins++) {
            HadForVoice x = new HadForVoice();
            x.worth(1, 10);
            x.fee(2);
            x.jar(1, 1);
            x.person(1, 0, 1, coins);
            due(17, coins + " of 12: fewest()", x.fewest(), coins < 12 ? -3 : 1);
            due(20, coins + " of 12: most(1)", x.most(1), coins < 12 ? 0 : 1);
            due(21, coins + " of 12: cheapest(1)", x.cheapest(1), coins < 12 ? -3 : 12);
            due(25, coins + " of 12: feeFor(1)", x.feeFor(1), coins - 10);
        }
    }

    /** "The FIRST is that with the lesser number where they are unlike first": at the first CHANGE and at the last. */
    private static void theLesserNumber() {
        HadForVoice x = new HadForVoice();
        for (int p = 0; p < 4; p++) {
            x.person(1, 0, 1, 9);
        }
        x.jar(1, 4);
        x.person(1, 1, 0, 0);
        x.person(1, 1, 0, 0);
        for (int p = 0; p < 4; p++) {
            x.meets(p, 4, true);
            x.meets(p, 5, true);
        }
        row(x, 4, 15, 29, 39);
        cheap(x, 4, 0, 4, 15, 29, 39);
        cheap(x, 3, -3);
        x.jar(0, 2);
        row(x, 4, 15, 29, 39);
        cheap(x, 6, 0, 4, 15, 29, 39);
        for (int p = 0; p < 4; p++) {
            x.meets(p, 5, false);
        }
        row(x, 4, 19, 29, 39, 59);
        cheap(x, 6, 0, 4, 19, 29, 39, 59);
    }

    /** "PEOPLE but for whom a ROW would make all others WHOLE ... 0, if one does with all of them". */
    private static void whoBars() {
        for (int many = 0; many <= 6; many++) {
            for (int few = 0; few <= Math.min(3, many); few++) {
                HadForVoice x = Check.lacking(many, many - few);
                due(23, few + " too few for " + many, x.bars(), few == 1 ? (1 << many) - 1 : 0);
            }
        }
        for (int p = 0; p < 6; p++) {
            HadForVoice x = Check.lacking(6, 6);
            x.change(p, 2, 7);
            due(23, p + " needs what nobody has", x.bars(), 1 << p);
            x.change((p + 1) % 6, 2, 7);
            due(23, "another one, too", x.bars(), 0);
            x.jar(7, 1);
            due(23, "one of the two, with one for both", x.bars(), 1 << p | 1 << (p + 1) % 6);
            x.jar(7, 2);
            due(23, "none, with two", x.bars(), 0);
        }
        HadForVoice x = Check.circle();
        x.meets(1, 2, false);
        x.meets(0, 2, false);
        due(23, "neither exchanging: but for any one the others can't", x.bars(), 0);
        x.change(1, 2, 0);
        due(23, "0 and 1 can, but for 2", x.bars(), 4);
    }

    /** "One more in its JAR would let most PEOPLE be WHOLE behind a ROW (more than now) ... NONE". */
    private static void whichJar() {
        for (int many = 0; many <= 6; many++) {
            for (int jar = 0; jar <= many + 1; jar++) {
                HadForVoice x = Check.lacking(many, jar);
                due(24, jar + " for " + many, x.jars(), jar < many ? 1 : -3);
            }
        }
        for (int coins = 9; coins <= 11; coins++) {
            HadForVoice x = Check.lacking(1, 0);
            x.worth(1, 10);
            x.change(0, 3, coins);
            due(24, "with " + coins + " of 10 COINS", x.jars(), coins < 10 ? -3 : 1);
        }
        HadForVoice x = Check.lacking(2, 0);
        x.change(1, 1, 1);
        x.change(1, 2, 2);
        x.change(1, 3, 0);
        due(24, "one of 1 lets 0 be WHOLE, one of 2 lets both", x.jars(), 2);
        x.worth(2, 1);
        due(24, "1 can't pay for a 2", x.jars(), 1);
        x.jar(1, 1);
        due(24, "0 can be, 1 can't pay", x.jars(), -3);
        x.change(1, 3, 1);
        due(24, "1 can pay", x.jars(), 2);
        x.jar(2, 1);
        due(24, "both can be", x.jars(), -3);
    }

    /** "Of several the least": of any two THINGS; but if the one gives the JAR the other one, that lets both be WHOLE. */
    private static void ofSeveralTheLeast() {
        for (int t = 0; t < 8; t++) {
            for (int u = 0; u < 8; u++) {
                HadForVoice x = new HadForVoice();
                x.person(1, (t + 1) % 8, t, 0);
                due(24, "the one", x.jars(), t);
                x.person(1, (u + 1) % 8, u, 0);
                int due = u == (t + 1) % 8 ? t : t == (u + 1) % 8 ? u : Math.min(t, u);
                due(24, t + " and " + u, x.jars(), due);
            }
        }
    }

    /** "The greatest FEE (0 to 50)": by COINS about each of these; whatever FEE is now. */
    private static void greatestFee() {
        for (int coins = 0; coins <= 52; coins++) {
            for (int fee : new int[] {0, 25, 50}) {
                HadForVoice x = Check.lacking(1, 1);
                x.fee(fee);
                x.change(0, 3, coins);
                due(25, coins + " COINS", x.feeFor(1), Math.min(50, coins));
                due(25, coins + " COINS", x.feeFor(6), Math.min(50, coins));
                x.worth(1, 1);
                due(25, coins + " COINS for one more", x.feeFor(1), coins == 0 ? -3 : Math.min(50, coins - 1));
                x.remake(0, 4);
                due(25, "a prince with " + coins, x.feeFor(1), coins < 2 ? -3 : coins / 2 - 1);
                due(11, "FEE is as it was", x.state(2), fee);
            }
        }
    }

    /** That of all of a ROW's CHANGES, and of ROWS that are short enough. */
    private static void feeOfAll() {
        HadForVoice x = Check.lacking(3, 3);
        for (int p = 0; p < 3; p++) {
            x.change(p, 3, 30 - p);
        }
        for (int n = 1; n <= 6; n++) {
            due(25, "the poorest one's, feeFor(" + n + ")", x.feeFor(n), n < 3 ? -3 : 28);
        }
        x.person(1, 1, 0, 7);
        x.meets(2, 3, true);
        due(25, "2 needs no witch", x.feeFor(3), 29);
        due(25, "that takes three", x.feeFor(2), -3);
        x.meets(2, 3, false);
        x.jar(0, 1);
        due(25, "3 has 7", x.feeFor(4), 7);
        due(25, "that takes four", x.feeFor(3), -3);
        Check.rules(x, "maid if number = 3 free;");
        due(25, "3 pays nothing by the RULE", x.feeFor(4), 28);
        Check.rules(x, "person free;");
        due(25, "nobody pays", x.feeFor(4), 50);
    }

    /** "For each of its CHANGES (CHANGE, COINS of all PEOPLE together, those who are WHOLE as a set), behind it". */
    private static void rowsOfAll() {
        for (int many = 0; many <= 6; many++) {
            HadForVoice x = Check.lacking(many, 9);
            for (int p = 0; p < many; p++) {
                x.change(p, 3, 100);
            }
            x.fee(3);
            due(39, "prove() of " + many, x.prove(), many);
            due(52, "many(4)", x.many(4), many);
            for (int k = 0; k < many; k++) {
                due(40, "row(" + k + ", 0)", x.row(k, 0), 10 * k + 9);
                due(40, "row(" + k + ", 1)", x.row(k, 1), 100 * many - 3 * (k + 1));
                due(40, "row(" + k + ", 2)", x.row(k, 2), (1 << k + 1) - 1);
            }
            due(42, "judge()", x.judge(), 0);
            x.jar(1, Math.max(0, many - 1));
            due(39, "prove() of one too few", x.prove(), many == 0 ? 0 : -3);
            due(52, "ROWS stay", x.many(4), many);
            due(42, "the last one can't be", x.judge(), many);
        }
    }

    /** "0 all is right; else the first ROW that isn't, and 1 more": each ROW in turn, a step to either side. */
    private static void theReader() {
        for (int k = 0; k < 6; k++) {
            for (int what = 0; what < 3; what++) {
                for (int by = -1; by <= 1; by++) {
                    HadForVoice x = Check.lacking(6, 6);
                    x.prove();
                    int was = x.row(k, what);
                    due(41, "alterRow", x.alterRow(k, what, was + by), was);
                    due(42, "judge() of row " + k + ", " + what + " by " + by, x.judge(), by == 0 ? 0 : k + 1);
                    if (k < 5) {
                        x.alterRow(5, what, -7);
                        due(42, "and the last one", x.judge(), by == 0 ? 6 : k + 1);
                    }
                }
            }
        }
        HadForVoice y = Check.lacking(2, 2);
        y.prove();
        int[] none = {-1, 0, 1, 8, 10, 18, 20, 29, 39, 59, 69, 99, 100, 109, Check.MIN, Check.MAX};
        for (int c : none) {
            y.alterRow(0, 0, c);
            due(42, c + " can't be", y.judge(), 1);
        }
        y.alterRow(0, 0, 9);
        due(42, "9 can be", y.judge(), 0);
    }

    /** "Behind the last one all are WHOLE (else that ROW isn't right)". */
    private static void theLastRow() {
        for (int many = 1; many <= 5; many++) {
            HadForVoice x = Check.lacking(many, 9);
            x.prove();
            x.person(1, 0, 1, 0);
            due(42, "one more isn't WHOLE behind the last of " + many, x.judge(), many);
            x.change(many, 1, 1);
            due(42, "one more is WHOLE ahead of the first one", x.judge(), 1);
            x.change(many, 1, 0);
            for (int k = 0; k < many; k++) {
                x.alterRow(k, 2, (1 << k + 1) - 1 | 1 << many);
            }
            due(42, "as if it were", x.judge(), 1);
            x.change(many, 1, 1);
            due(42, "it is", x.judge(), 0);
        }
        HadForVoice y = new HadForVoice();
        due(42, "no ROWS", y.judge(), 0);
        y.person(1, 0, 1, 0);
        due(42, "no ROWS, and one isn't WHOLE", y.judge(), 0);
    }
}
