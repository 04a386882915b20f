import java.util.ArrayList;
import java.util.List;

/** Part 1 of the terms, sentence by sentence: at each bound that it names and a step to either side. */
public final class ThingsBoundsTest {
    private static final Check CHECK = new Check();
    private static final int MAID = 1;
    private static final int MISER = 2;
    private static final int WIDOW = 3;
    private static final int PRINCE = 4;
    private static final int BEAST = 5;

    public static void main(String[] args) {
        atFirst();
        sixPeople();
        theMeeting();
        whole();
        stillWhole();
        whatAMaidIsAsked();
        whatAMiserIsAsked();
        whatAWidowIsAsked();
        whatAPrinceAndABeastAreAsked();
        ruleAheadOfKind();
        kindsAboveAndUnder();
        everyNumberOfAChange();
        anExchange();
        withTheWitch();
        theJarOfWhatItHas();
        theLedger();
        theLedgerByOthers();
        takenBack();
        backOfTheWitch();
        intoAFullJar();
        untilTheLastCall();
        CHECK.end();
    }

    private static void due(int promise, String call, long got, long want) {
        CHECK.due(promise, call, got, want);
    }

    /** "0 at first", "nobody at first", "THE LEDGER is empty; nothing is kept". */
    private static void atFirst() {
        HadForVoice x = new HadForVoice();
        for (int t = 0; t < 8; t++) {
            for (int what = 0; what < 4; what++) {
                due(1, "thing(" + t + ", " + what + ")", x.thing(t, what), 0);
            }
        }
        for (int what = 0; what < 4; what++) {
            due(1, "state(" + what + ")", x.state(what), 0);
        }
        for (int s = 0; s < 4; s++) {
            for (int sort = 0; sort < 5; sort++) {
                due(1, "sheets are missing", x.item(s, sort, 0), -11);
                due(1, "shelves hold nothing", x.taken(s, 10 + sort), -11);
            }
            due(1, "shelves hold nothing", x.taken(s, 0), -11);
        }
        due(1, "back()", x.back(), -3);
        due(1, "again()", x.again(), -3);
        due(1, "forget()", x.forget(), 0);
        due(1, "trace(0)", x.trace(0), -3);
        due(1, "row(0, 0)", x.row(0, 0), -9);
        x.person(1, 0, 1, 0);
        due(1, "meets nobody", x.personOf(0, 6), 0);
        due(1, "z", x.seed(0), 1);
    }

    /** "PEOPLE, 6 at most, numbered as they come". */
    private static void sixPeople() {
        HadForVoice x = new HadForVoice();
        for (int p = 0; p < 6; p++) {
            due(2, "person", x.person(1 + p % 5, p, 7 - p, 100 + p), p);
            due(52, "many(0)", x.many(0), p + 1);
        }
        for (int k = 0; k < 2; k++) {
            due(2, "one more than six", x.person(1, 0, 0, 0), -2);
            due(2, "bad ahead of full", x.person(6, 0, 0, 0), -1);
            due(52, "many(0)", x.many(0), 6);
        }
        for (int p = 0; p < 6; p++) {
            int[] due = {1 + p % 5, p, 7 - p, 100 + p};
            for (int what = 0; what < 4; what++) {
                due(3, "personOf(" + p + ", " + what + ")", x.personOf(p, what), due[what]);
            }
        }
        due(11, "COINS of all", x.state(1), 615);
    }

    /** "Those whom it MEETS (nobody at first; both or neither)": one who comes later is met by nobody, too. */
    private static void theMeeting() {
        HadForVoice x = Check.whole(6);
        for (int p = 0; p < 6; p++) {
            for (int q = 0; q < 6; q++) {
                if (p != q) {
                    due(6, "not yet", x.meets(p, q, true), 0);
                    due(6, "now", x.meets(p, q, true), 1);
                    due(3, "one", x.personOf(p, 6), 1 << q);
                    due(3, "the other one", x.personOf(q, 6), 1 << p);
                    due(6, "of the other one", x.meets(q, p, false), 1);
                    due(6, "not any more", x.meets(p, q, false), 0);
                    due(3, "nobody", x.personOf(p, 6), 0);
                    due(3, "nobody", x.personOf(q, 6), 0);
                }
            }
        }
        HadForVoice y = Check.whole(2);
        y.keep();
        y.person(1, 0, 0, 0);
        y.meets(0, 2, true);
        y.again();
        y.person(1, 0, 0, 0);
        due(2, "another 2", y.personOf(2, 6), 0);
        due(2, "another 2", y.personOf(0, 6), 0);
    }

    /** "WHOLE if it HAS what it NEEDS": by the THING, not by its WORTH. */
    private static void whole() {
        for (int has = 0; has < 8; has++) {
            for (int needs = 0; needs < 8; needs++) {
                HadForVoice x = new HadForVoice();
                x.person(1, has, needs, 0);
                due(3, has + ", " + needs, x.personOf(0, 5), has == needs ? 1 : 0);
                due(11, has + ", " + needs, x.state(0), has == needs ? 1 : 0);
                due(10, has + " is had", x.thing(has, 2), 1);
                due(10, needs + " is needed", x.thing(needs, 3), 1);
            }
        }
    }

    /** What becomes the same again leaves it WHOLE or not. */
    private static void stillWhole() {
        for (int p = 0; p < 6; p++) {
            HadForVoice x = Check.whole(6);
            for (int k = 0; k < 2; k++) {
                due(4, "what it HAS", x.change(p, 1, 0), 0);
                due(4, "what it NEEDS", x.change(p, 2, 0), 0);
                due(4, "its COINS", x.change(p, 3, 5), k * 5);
                due(5, "its KIND", x.remake(p, 2), 1 + k);
                due(11, "all are WHOLE", x.state(0), 63);
            }
            x.change(p, 1, 1);
            for (int k = 0; k < 2; k++) {
                due(4, "what it HAS", x.change(p, 1, 1), 1);
                due(4, "what it NEEDS", x.change(p, 2, 0), 0);
                due(4, "its COINS", x.change(p, 3, 5), 5);
                due(11, "all but " + p + " are", x.state(0), 63 - (1 << p));
            }
        }
    }

    /** What one of a KIND is asked who has a THING of one WORTH and needs another, with COINS, by a FEE. */
    private static int asked(int kind, int has, int needs, int coins, int fee) {
        HadForVoice x = new HadForVoice();
        x.worth(0, has);
        x.worth(1, needs);
        x.fee(fee);
        x.person(kind, 0, 1, coins);
        return x.personOf(0, 4);
    }

    /** "WORTH of what it NEEDS less WORTH of what it HAS (0 at least), and FEE"; "maid: p". */
    private static void whatAMaidIsAsked() {
        int[] worths = {0, 1, 2, 49, 50, 51, 98, 99};
        for (int fee : new int[] {0, 1, 49, 50}) {
            for (int has : worths) {
                for (int needs : worths) {
                    int p = needs <= has ? fee : needs - has + fee;
                    due(3, has + " for " + needs, asked(MAID, has, needs, 0, fee), p);
                    due(3, has + " for " + needs + ", twice", asked(PRINCE, has, needs, 0, fee), p + p);
                }
            }
        }
    }

    /** "p less a tenth of its COINS (0 at least)"; "quotients are cut towards 0". */
    private static void whatAMiserIsAsked() {
        int[][] tenths = {
            {0, 0}, {1, 0}, {9, 0}, {10, 1}, {11, 1}, {19, 1}, {20, 2}, {99, 9}, {100, 10}, {989, 98}, {990, 99},
            {999, 99}
        };
        for (int[] t : tenths) {
            for (int p : new int[] {t[1] - 1, t[1], t[1] + 1, 149}) {
                if (p >= 0) {
                    int fee = Math.min(p, 50);
                    int due = p > t[1] ? p - t[1] : 0;
                    due(3, "a miser with " + t[0] + " by " + p, asked(MISER, 0, p - fee, t[0], fee), due);
                    due(3, "a widow with " + t[0] + " by " + p, asked(WIDOW, 0, p - fee, t[0], fee), due / 2);
                }
            }
        }
    }

    /** "Half of it if nobody is WHOLE": 0, 1 or 2 of them, she one or not. */
    private static void whatAWidowIsAsked() {
        int[] halves = {0, 0, 1, 1, 2, 2, 3};
        for (int p = 0; p < halves.length; p++) {
            due(3, "a half of " + p, asked(WIDOW, 0, p, 0, 0), halves[p]);
        }
        HadForVoice x = new HadForVoice();
        x.worth(1, 21);
        x.person(WIDOW, 0, 1, 0);
        x.person(MAID, 2, 3, 0);
        x.person(MAID, 2, 3, 0);
        due(3, "nobody is", x.personOf(0, 4), 10);
        x.change(2, 1, 3);
        due(3, "the last one is", x.personOf(0, 4), 21);
        x.change(1, 1, 3);
        due(3, "two are", x.personOf(0, 4), 21);
        x.change(2, 1, 2);
        due(3, "another one is", x.personOf(0, 4), 21);
        x.change(1, 1, 2);
        due(3, "nobody is", x.personOf(0, 4), 10);
        x.fee(21);
        x.change(0, 1, 1);
        due(3, "she herself is", x.personOf(0, 4), 21);
        x.change(0, 1, 2);
        x.worth(2, 21);
        due(3, "she has one of the same WORTH", x.personOf(0, 4), 10);
    }

    /** "prince: twice p. beast: as prince, 7 less (0 at least)". */
    private static void whatAPrinceAndABeastAreAsked() {
        int[] beasts = {0, 0, 0, 0, 1, 3, 5};
        for (int p = 0; p < beasts.length; p++) {
            due(3, "a prince by " + p, asked(PRINCE, 0, p, 999, 0), 2 * p);
            due(3, "a beast by " + p, asked(BEAST, 0, p, 999, 0), beasts[p]);
        }
        due(3, "a beast by all", asked(BEAST, 0, 99, 0, 50), 291);
        due(3, "a prince by all", asked(PRINCE, 0, 99, 0, 50), 298);
    }

    /** "A RULE changes it ... Then by KIND"; "N less (0 at least)", at N, a step below and a step above. */
    private static void ruleAheadOfKind() {
        for (int p = 39; p <= 41; p++) {
            HadForVoice x = new HadForVoice();
            x.worth(1, p);
            for (int kind = 1; kind <= 5; kind++) {
                x.person(kind, 0, 1, 0);
            }
            Check.rules(x, "person less 40;");
            int left = p == 41 ? 1 : 0;
            due(3, "a maid by " + p + " less 40", x.personOf(0, 4), left);
            due(3, "a miser by " + p + " less 40", x.personOf(1, 4), left);
            due(3, "a widow by " + p + " less 40", x.personOf(2, 4), 0);
            due(3, "a prince by " + p + " less 40", x.personOf(3, 4), 2 * left);
            due(3, "a beast by " + p + " less 40", x.personOf(4, 4), 0);
            Check.rules(x, "person more 40;");
            int[] dues = {p + 40, p + 40, (p + 40) / 2, 2 * p + 80, 2 * p + 73};
            for (int k = 0; k < 5; k++) {
                due(3, "by " + p + " more 40", x.personOf(k, 4), dues[k]);
                x.change(k, 3, 400);
            }
            due(3, "a miser's tenth is behind the RULE", x.personOf(1, 4), p);
            Check.rules(x, "person free;");
            for (int k = 0; k < 5; k++) {
                due(3, "free", x.personOf(k, 4), 0);
            }
            x.fee(50);
            x.worth(1, 99);
            for (int k = 0; k < 5; k++) {
                due(3, "free of all there can be", x.personOf(k, 4), 0);
                x.change(k, 3, 0);
            }
            Check.rules(x, "person more 99;");
            due(3, "a maid by all there can be", x.personOf(0, 4), 248);
            due(3, "a beast by all there can be", x.personOf(4, 4), 489);
        }
    }

    /** "0 person; 1 maid, 2 miser, 4 prince (under person); 3 widow (under miser); 5 beast (under prince)". */
    private static void kindsAboveAndUnder() {
        String[] names = {"person", "maid", "miser", "widow", "prince", "beast"};
        boolean[][] isUnder = {
            {}, {true, true, false, false, false, false}, {true, false, true, false, false, false},
            {true, false, true, true, false, false}, {true, false, false, false, true, false},
            {true, false, false, false, true, true}
        };
        for (int above = 0; above <= 5; above++) {
            HadForVoice x = new HadForVoice();
            x.worth(1, 40);
            for (int kind = 1; kind <= 5; kind++) {
                x.person(kind, 0, 1, 0);
            }
            Check.rules(x, names[above] + " free;");
            for (int kind = 1; kind <= 5; kind++) {
                x.shelf(0, 0, kind - 1);
                due(3, names[kind] + " by a RULE for " + names[above], x.personOf(kind - 1, 4) == 0 ? 1 : 0,
                    isUnder[kind][above] ? 1 : 0);
                due(49, names[kind] + " taken for " + names[above], x.taken(0, above),
                    isUnder[kind][above] ? kind - 1 : -13);
            }
        }
    }

    /**
     * "CHANGES have numbers: 10 times the one and the other, the lesser PERSON first", "10 times a PERSON and 9": six
     * people in three groups, each of which has what another group needs; two ways to group them try all pairs.
     */
    private static void everyNumberOfAChange() {
        for (int grouping = 0; grouping < 2; grouping++) {
            HadForVoice x = grouped(grouping);
            List<Integer> cans = new ArrayList<>();
            for (int p = 0; p < 6; p++) {
                for (int q = p + 1; q < 6; q++) {
                    if (groupOf(p, grouping) != groupOf(q, grouping)) {
                        cans.add(10 * p + q);
                    }
                }
                cans.add(10 * p + 9);
            }
            for (int from = -1; from <= 61; from++) {
                int due = -3;
                for (int k = cans.size() - 1; k >= 0; k--) {
                    due = cans.get(k) > from ? cans.get(k) : due;
                }
                due(14, "cans(" + from + ")", x.cans(from), due);
            }
            for (int c : cans) {
                madeAndTakenBack(grouping, c);
            }
        }
    }

    private static int groupOf(int p, int grouping) {
        return grouping == 0 ? p % 3 : p / 2;
    }

    private static HadForVoice grouped(int grouping) {
        HadForVoice x = new HadForVoice();
        for (int p = 0; p < 6; p++) {
            x.person(1, groupOf(p, grouping), (groupOf(p, grouping) + 1) % 3, 0);
            x.jar(p, 1);
            for (int q = 0; q < p; q++) {
                x.meets(p, q, true);
            }
        }
        return x;
    }

    private static void madeAndTakenBack(int grouping, int c) {
        HadForVoice x = grouped(grouping);
        int p = c / 10;
        int q = c % 10;
        int had = x.personOf(p, 1);
        int needed = x.personOf(p, 2);
        int got = q == 9 ? needed : x.personOf(q, 1);
        due(15, "make of " + c, x.make(p, q), 0);
        due(15, c + " gave " + p, x.personOf(p, 1), got);
        if (q != 9) {
            due(15, c + " gave " + q, x.personOf(q, 1), had);
        }
        due(15, "jar of what is had, by " + c, x.thing(had, 1), q == 9 ? 2 : 1);
        due(15, "jar of what is needed, by " + c, x.thing(needed, 1), q == 9 ? 0 : 1);
        due(15, "it can't be twice", x.make(p, q), -4);
        due(16, "back() of " + c, x.back(), c);
        for (int r = 0; r < 6; r++) {
            due(16, "as it was ahead of " + c, x.personOf(r, 1), groupOf(r, grouping));
        }
        due(16, "the jars, too", x.thing(had, 1) + 10 * x.thing(needed, 1), 11);
    }

    /** "An exchange CAN BE if they MEET, neither is WHOLE, and one of them at least is WHOLE behind it". */
    private static void anExchange() {
        for (int hasP = 0; hasP < 3; hasP++) {
            for (int needsP = 0; needsP < 3; needsP++) {
                for (int hasQ = 0; hasQ < 3; hasQ++) {
                    for (int needsQ = 0; needsQ < 3; needsQ++) {
                        HadForVoice x = new HadForVoice();
                        x.person(1, hasP, needsP, 0);
                        x.person(1, hasQ, needsQ, 0);
                        due(15, "they don't MEET", x.make(0, 1), -4);
                        x.meets(0, 1, true);
                        boolean isWhole = hasP == needsP || hasQ == needsQ;
                        boolean willBe = needsP == hasQ || needsQ == hasP;
                        String who = hasP + " for " + needsP + " and " + hasQ + " for " + needsQ;
                        due(14, who, x.cans(-1), !isWhole && willBe ? 1 : -3);
                        due(15, who, x.make(0, 1), !isWhole && willBe ? 0 : -4);
                        due(11, who, x.state(3), !isWhole && willBe ? 1 : 0);
                    }
                }
            }
        }
    }

    /** "There is what it NEEDS in its JAR ... its COINS are WHAT SHE ASKS or more ... so many COINS less". */
    private static void withTheWitch() {
        for (int jar = 0; jar <= 2; jar++) {
            for (int coins = 22; coins <= 24; coins++) {
                HadForVoice x = new HadForVoice();
                x.worth(1, 20);
                x.fee(3);
                x.jar(1, jar);
                x.person(1, 0, 1, coins);
                boolean canBe = jar > 0 && coins >= 23;
                String how = jar + " in the jar, " + coins + " COINS";
                due(14, how, x.cans(-1), canBe ? 9 : -3);
                due(15, how, x.make(0, 9), canBe ? 23 : -4);
                due(15, "COINS: " + how, x.personOf(0, 3), canBe ? coins - 23 : coins);
                due(15, "jar: " + how, x.thing(1, 1), canBe ? jar - 1 : jar);
                due(15, "the other jar: " + how, x.thing(0, 1), canBe ? 1 : 0);
                due(15, "what it has: " + how, x.personOf(0, 1), canBe ? 1 : 0);
            }
        }
        HadForVoice y = new HadForVoice();
        y.jar(0, 9);
        y.person(1, 0, 0, 999);
        due(15, "it is WHOLE", y.make(0, 9), -4);
        y.change(0, 2, 1);
        y.jar(1, 9);
        due(15, "for nothing", y.make(0, 9), 0);
        due(15, "it keeps its COINS", y.personOf(0, 3), 999);
    }

    /** So many of THING 0 in its JAR, taken there by maids who need a 1; the one of THING 1 holds 9 behind it. */
    private static HadForVoice manyInJar(int many) {
        HadForVoice x = Check.lacking(6, 9);
        x.sheet(0, 0, 6);
        for (int k = 0; k < 6; k++) {
            x.write(0, k, 10 * k + 9);
        }
        x.jar(0, 9);
        int left = many - 9;
        for (int k = 0; k < 20 && left > 0; k++) {
            left -= x.makeAll(0, 0, Math.min(6, left));
            x.jar(1, 9);
            for (int p = 0; p < 6; p++) {
                x.change(p, 1, 0);
            }
        }
        return x;
    }

    /** "Fewer than 99 in that of what it HAS". */
    private static void theJarOfWhatItHas() {
        for (int many = 97; many <= 99; many++) {
            HadForVoice x = manyInJar(many);
            due(10, many + " in the jar", x.thing(0, 1), many);
            due(14, "cans with " + many, x.cans(-1), many < 99 ? 9 : -3);
            due(20, "most with " + many, x.most(6), Math.min(6, 99 - many));
            due(15, "make with " + many, x.make(0, 9), many < 99 ? 0 : -4);
            due(10, "in the jar now", x.thing(0, 1), Math.min(99, many + 1));
        }
        HadForVoice y = manyInJar(99);
        due(8, "a jar of 99 is told another number", y.jar(0, 9), 99);
        due(8, "jar", y.jar(0, 10), -1);
        due(8, "jar", y.thing(0, 1), 9);
        due(15, "there is room again", y.make(0, 9), 0);
    }

    /** "At most 512 calls": the last of these is answered, and changes, as the first. */
    private static void untilTheLastCall() {
        HadForVoice x = Check.circle();
        int calls = 4 + 3 + 3;
        for (int k = calls; k < 508; k += 2) {
            due(15, "make", x.make(0, 1), 0);
            due(16, "back", x.back(), 1);
        }
        due(17, "the 509th", x.fewest(), 2);
        due(15, "the 510th", x.make(0, 1), 0);
        due(15, "the 511th", x.make(1, 2), 0);
        due(11, "the 512th", x.state(0), 7);
    }

    /** "12 at most (of more the latest)". */
    private static void theLedger() {
        for (int many = 11; many <= 14; many++) {
            HadForVoice x = new HadForVoice();
            for (int p = 0; p < 6; p++) {
                x.person(1, 0, 1, 0);
            }
            for (int k = 0; k < many; k++) {
                x.jar(1, 9);
                x.make(k % 6, 9);
                x.change(k % 6, 1, 0);
            }
            due(11, many + " were made", x.state(3), Math.min(12, many));
            due(52, many + " were made", x.many(2), Math.min(12, many));
            for (int k = many - 1; k >= Math.max(0, many - 12); k--) {
                x.change(k % 6, 1, 1);
                due(16, "back() to " + k + " of " + many, x.back(), k % 6 * 10 + 9);
            }
            due(16, "back() of no more, of " + many, x.back(), -3);
        }
    }

    /** "The CHANGES that were made": by draw() and makeAll(), too, and not those that are only asked about. */
    private static void theLedgerByOthers() {
        for (int many = 11; many <= 13; many++) {
            HadForVoice x = Check.lacking(1, 9);
            HadForVoice y = Check.lacking(1, 9);
            y.sheet(0, 0, 1);
            y.write(0, 0, 9);
            for (int k = 0; k < many; k++) {
                due(38, "often(3)", x.often(3), 3);
                due(47, "wouldCost(0, 0, 1)", y.wouldCost(0, 0, 1), 0);
                due(17, "fewest()", x.fewest(), 1);
                due(11, "in THE LEDGER", x.state(3), Math.min(12, k));
                due(37, "draw()", x.draw(), 9);
                due(46, "makeAll(0, 0, 1)", y.makeAll(0, 0, 1), 1);
                due(11, "in THE LEDGER", x.state(3), Math.min(12, k + 1));
                due(11, "in THE LEDGER", y.state(3), Math.min(12, k + 1));
                x.change(0, 1, 0);
                y.change(0, 1, 0);
                x.jar(1, 9);
                y.jar(1, 9);
            }
            for (int k = 0; k < many; k++) {
                x.change(0, 1, 1);
                y.change(0, 1, 1);
                due(16, "back() of draw()", x.back(), k < 12 ? 9 : -3);
                due(16, "back() of makeAll()", y.back(), k < 12 ? 9 : -3);
            }
        }
    }

    /** "STATE: what they HAVE isn't as it was behind it"; what they NEED, COINS and MEETINGS count nothing. */
    private static void takenBack() {
        for (int p = 0; p < 2; p++) {
            for (int has = 0; has < 8; has++) {
                HadForVoice x = Check.circle();
                x.make(0, 1);
                x.change(p, 1, has);
                int behind = p == 0 ? 1 : 0;
                due(16, p + " has " + has, x.back(), has == behind ? 1 : -4);
                due(11, p + " has " + has, x.state(3), has == behind ? 0 : 1);
                due(16, p + " keeps " + has, x.personOf(p, 1), has == behind ? 1 - behind : has);
            }
        }
        HadForVoice x = Check.circle();
        x.make(0, 1);
        x.change(0, 2, 7);
        x.change(1, 2, 0);
        x.change(0, 3, 9);
        x.meets(0, 1, false);
        x.remake(0, 5);
        due(16, "all else is another", x.back(), 1);
    }

    /** "(Of the WITCH) what was given isn't in its JAR, or there are 99 in the other one". */
    private static void backOfTheWitch() {
        for (int many = 0; many <= 2; many++) {
            HadForVoice x = Check.lacking(1, 1);
            x.make(0, 9);
            x.jar(0, many);
            due(16, many + " of what was given", x.back(), many == 0 ? -4 : 9);
            due(16, "jar of " + many, x.thing(0, 1), Math.max(0, many - 1));
            due(16, "the other jar", x.thing(1, 1), many == 0 ? 0 : 1);
            due(16, "what it has", x.personOf(0, 1), many == 0 ? 1 : 0);
        }
    }

    /**
     * "There are 99 in the other one": 97 and 98 are few enough. No run of calls comes to 99: the CHANGE itself left 98
     * at most, what was made behind it must be taken back first, and jar() tells 9 at most.
     */
    private static void intoAFullJar() {
        for (int many = 98; many <= 99; many++) {
            HadForVoice x = manyInJar(many);
            x.change(0, 1, 2);
            x.change(0, 2, 0);
            x.make(0, 9);
            due(10, "one less", x.thing(0, 1), many - 1);
            due(15, "another one brings it", x.make(1, 9), 0);
            due(10, "as many again", x.thing(0, 1), many);
            x.change(1, 1, 5);
            due(16, "the latest isn't as it was", x.back(), -4);
            x.change(1, 1, 1);
            due(16, "the latest is taken back", x.back(), 19);
            due(16, "into a jar with room for one", x.back(), 9);
            due(10, "as many again", x.thing(0, 1), many);
            due(10, "what was given is out of its jar", x.thing(2, 1), 0);
        }
    }
}
