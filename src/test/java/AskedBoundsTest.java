/** Promises 26 to 38, sentence by sentence: at each bound that they name and a step to either side. */
public final class AskedBoundsTest {
    private static final Check CHECK = new Check();

    public static void main(String[] args) {
        ringsOfEachSize();
        twoWaysRound();
        whoIsWholeIsInNone();
        ofSeveralRings();
        barterByWorth();
        barterOfN();
        theDearest();
        gamesByWitch();
        gamesToPlay();
        sixReports();
        lawsThatFit();
        whatIsMore();
        liars();
        drawnByNumbers();
        drawnOfExchanges();
        drawnNone();
        runs();
        runsByZ();
        CHECK.end();
    }

    private static void due(int promise, String call, long got, long want) {
        CHECK.due(promise, call, got, want);
    }

    /** So many in a ring: each has a THING by its number and needs that of the next one (or the one ahead). */
    private static HadForVoice ring(int many, int step) {
        HadForVoice x = new HadForVoice();
        for (int p = 0; p < many; p++) {
            x.person(1, p, (p + step + many) % many, 0);
        }
        for (int p = 0; p < many && many > 1; p++) {
            x.meets(p, (p + 1) % many, true);
        }
        return x;
    }

    /** "RING of k PEOPLE (2 to 6) ... each MEETS the next one and NEEDS what that HAS, the last one likewise". */
    private static void ringsOfEachSize() {
        for (int many = 2; many <= 6; many++) {
            HadForVoice x = ring(many, 1);
            for (int k = 2; k <= 6; k++) {
                due(26, "of " + many + " rings(" + k + ")", x.rings(k), k == many ? 1 : 0);
                for (int i = 0; i < k; i++) {
                    due(27, "of " + many + " ring(" + k + ", " + i + ")", x.ring(k, i), k == many ? i : -3);
                }
            }
            for (int p = 0; p < many; p++) {
                x.meets(p, (p + 1) % many, false);
                due(26, p + " doesn't MEET the next one of " + many, x.rings(many), 0);
                due(27, p + " doesn't MEET the next one of " + many, x.ring(many, 0), -3);
                x.meets(p, (p + 1) % many, true);
                x.change(p, 2, 7);
                due(26, p + " needs another THING, of " + many, x.rings(many), 0);
                x.change(p, 2, (p + 1) % many);
            }
            due(26, "all MEET and need again", x.rings(many), 1);
        }
    }

    /** "It begins with its least PERSON", though each NEEDS what the one ahead of it HAS. */
    private static void twoWaysRound() {
        for (int many = 2; many <= 6; many++) {
            HadForVoice x = ring(many, -1);
            due(26, "rings(" + many + ")", x.rings(many), 1);
            for (int i = 0; i < many; i++) {
                due(27, "ring(" + many + ", " + i + ")", x.ring(many, i), (many - i) % many);
            }
        }
    }

    /** "None of them WHOLE": the first, the last, and any between. */
    private static void whoIsWholeIsInNone() {
        for (int many = 2; many <= 6; many++) {
            for (int p = 0; p < many; p++) {
                HadForVoice x = ring(many, 1);
                int ahead = (p + many - 1) % many;
                x.change(p, 1, (p + 1) % many);
                x.change(ahead, 2, (p + 1) % many);
                if (ahead == (p + 1) % many) {
                    x.change(ahead, 2, p);
                    x.change(ahead, 1, 7);
                }
                due(26, p + " of " + many + " is WHOLE", x.rings(many), 0);
                due(27, p + " of " + many + " is WHOLE", x.ring(many, 0), -3);
            }
        }
    }

    /** "Of several the FIRST is as of ROWS: that with the lesser number where they are unlike first". */
    private static void ofSeveralRings() {
        HadForVoice x = new HadForVoice();
        for (int p = 0; p < 6; p++) {
            x.person(1, p % 2, 1 - p % 2, 0);
        }
        int[][] pairs = {{4, 5}, {2, 5}, {2, 3}, {0, 5}, {0, 3}, {0, 1}};
        for (int k = 0; k < pairs.length; k++) {
            due(26, "rings(2) of " + k, x.rings(2), k);
            x.meets(pairs[k][0], pairs[k][1], true);
            due(27, "ring(2, 0) of " + (k + 1), x.ring(2, 0), pairs[k][0]);
            due(27, "ring(2, 1) of " + (k + 1), x.ring(2, 1), pairs[k][1]);
        }
        HadForVoice y = new HadForVoice();
        for (int p = 0; p < 6; p++) {
            y.person(1, p / 2, (p / 2 + 1) % 3, 0);
            for (int q = 0; q < p; q++) {
                y.meets(p, q, true);
            }
        }
        due(26, "two of each of three THINGS", y.rings(3), 8);
        due(26, "two of each, all of them in one", y.rings(6), 4);
        int[] six = {0, 2, 4, 1, 3, 5};
        for (int i = 0; i < 6; i++) {
            due(27, "ring(6, " + i + ")", y.ring(6, i), six[i]);
        }
        y.meets(0, 2, false);
        int[] three = {0, 3, 4};
        for (int i = 0; i < 3; i++) {
            due(27, "ring(3, " + i + ") without 0 and 2", y.ring(3, i), three[i]);
        }
        due(26, "without 0 and 2", y.rings(3), 6);
    }

    /** "If the THINGS are unlike and the WORTH of its own is that of the other one's or more", "whatever it NEEDS". */
    private static void barterByWorth() {
        for (int own = 0; own <= 99; own += 33) {
            for (int other = Math.max(0, own - 1); other <= Math.min(99, own + 1); other++) {
                HadForVoice x = new HadForVoice();
                x.worth(3, own);
                x.worth(5, other);
                x.person(1, 3, 0, 0);
                x.person(1, 5, 5, 0);
                int due = 8 | (own >= other ? 32 : 0);
                due(28, "they don't MEET", x.comes(0, 1), 8);
                x.meets(0, 1, true);
                due(28, "a " + own + " for a " + other, x.comes(0, 1), due);
                x.change(0, 2, 3);
                due(28, "WHOLE, a " + own + " for a " + other, x.comes(0, 1), due);
                x.change(1, 2, 3);
                due(28, "it NEEDS a " + own, x.comes(0, 1), due);
                due(28, "from the other side", x.comes(1, 1), 32 | (other >= own ? 8 : 0));
                due(28, "nothing was exchanged", x.personOf(0, 1), 3);
                x.change(1, 1, 3);
                due(28, "like THINGS", x.comes(0, 4), 8);
            }
        }
    }

    /** "Behind n BARTERS (0 to 4) or fewer, as a set (those that it comes to in between, too)". */
    private static void barterOfN() {
        HadForVoice x = new HadForVoice();
        for (int p = 0; p < 6; p++) {
            x.person(1, 7 - p, 0, 0);
            x.worth(7 - p, 50 - p);
        }
        for (int q = 1; q < 6; q++) {
            x.meets(0, q, true);
        }
        int all = 0;
        for (int q = 0; q < 6; q++) {
            all |= 1 << 7 - q;
        }
        int[] dues = {128, all, all, all, all};
        for (int n = 0; n <= 4; n++) {
            due(28, "comes(0, " + n + ")", x.comes(0, n), dues[n]);
            due(28, "comes(5, " + n + ")", x.comes(5, n), 4);
            due(29, "dearest(0, " + n + ")", x.dearest(0, n), 7);
        }
        due(28, "nobody MEETS it", Check.whole(1).comes(0, 4), 1);
    }

    /** "That of these with most WORTH; of several the least". */
    private static void theDearest() {
        for (int own = 0; own < 8; own++) {
            for (int other = 0; other < 8; other++) {
                for (int less = 0; less <= 1; less++) {
                    HadForVoice x = new HadForVoice();
                    x.worth(own, 9);
                    x.worth(other, own == other ? 9 : 9 - less);
                    x.person(1, own, 0, 0);
                    x.person(1, other, 0, 0);
                    x.meets(0, 1, true);
                    due(29, own + " and " + other + " behind none", x.dearest(0, 0), own);
                    due(29, own + " and " + other + ", " + less + " less", x.dearest(0, 1), less == 1 ? own
                        : Math.min(own, other));
                }
            }
        }
    }

    /** "Who can't has lost; when n were made, nobody has": so many CHANGES there are, by n about that. */
    private static void gamesByWitch() {
        for (int many = 0; many <= 6; many++) {
            HadForVoice x = Check.lacking(6, many);
            for (int n = 1; n <= 6; n++) {
                int due = n <= many ? 2 : many % 2 == 1 ? 0 : 1;
                due(30, "of " + many + " game(" + n + ")", x.game(n), due);
                due(31, "of " + many + " play(" + n + ")", x.play(n), many == 0 ? -3 : 9);
            }
            due(30, "nothing was made", x.state(3), 0);
        }
    }

    /** "To win rather than that nobody does, and that rather than to lose ... the least CHANGE by which ...". */
    private static void gamesToPlay() {
        HadForVoice x = Check.lacking(2, 1);
        x.change(1, 1, 1);
        x.change(1, 2, 0);
        x.jar(0, 1);
        for (int n = 1; n <= 6; n++) {
            due(30, "each to the witch: game(" + n + ")", x.game(n), n <= 2 ? 2 : 1);
        }
        x.meets(0, 1, true);
        for (int n = 1; n <= 6; n++) {
            due(30, "or by an exchange: game(" + n + ")", x.game(n), n == 1 ? 2 : 0);
            due(31, "or by an exchange: play(" + n + ")", x.play(n), 1);
        }
        HadForVoice y = Check.lacking(3, 2);
        y.change(1, 1, 1);
        y.change(1, 2, 0);
        y.meets(0, 1, true);
        int[] games = {2, 2, 2, 0, 0, 0};
        int[] plays = {1, 1, 9, 9, 9, 9};
        for (int n = 1; n <= 6; n++) {
            due(30, "game(" + n + ")", y.game(n), games[n - 1]);
            due(31, "play(" + n + ")", y.play(n), plays[n - 1]);
        }
    }

    /** "A REPORT (6 at most)"; "how many there were". */
    private static void sixReports() {
        HadForVoice x = new HadForVoice();
        for (int many = 0; many <= 6; many++) {
            for (int k = 0; k < many; k++) {
                due(32, "report", x.report(k, 99 - k, 100 * k), k);
                due(52, "many(3)", x.many(3), k + 1);
            }
            if (many == 6) {
                due(32, "the seventh", x.report(0, 0, 0), -2);
                due(32, "bad ahead of full", x.report(100, 0, 0), -1);
                due(52, "many(3)", x.many(3), 6);
            }
            due(33, "forget() of " + many, x.forget(), many);
            due(33, "forget() of none", x.forget(), 0);
        }
    }

    /** "TIMES (0 to 3) and a FEE (0 to 50)": for 1 more so much was asked, from one end to the other. */
    private static void lawsThatFit() {
        for (int asked = 0; asked <= 60; asked++) {
            HadForVoice x = new HadForVoice();
            x.report(10, 11, asked);
            int least = Math.max(0, asked - 50);
            int most = Math.min(3, asked);
            int many = Math.max(0, most - least + 1);
            due(34, "span(0) of " + asked, x.span(0), many);
            due(34, "span(1) of " + asked, x.span(1), many == 0 ? -3 : least);
            due(34, "span(2) of " + asked, x.span(2), many == 0 ? -3 : asked - least);
            due(35, "liar() of " + asked, x.liar(), many == 0 ? 0 : -3);
        }
        for (int times = 0; times <= 4; times++) {
            for (int fee = times == 0 ? 0 : -1; fee <= 51; fee = fee == 3 ? 48 : fee + 1) {
                HadForVoice x = new HadForVoice();
                x.report(0, 99, 99 * times + fee);
                x.report(0, 98, 98 * times + fee);
                boolean fits = times <= 3 && fee >= 0 && fee <= 50;
                due(34, times + " and " + fee, x.span(0), fits ? 1 : 0);
                due(34, times + " and " + fee, x.span(1), fits ? times : -3);
                due(34, times + " and " + fee, x.span(2), fits ? fee : -3);
            }
        }
        HadForVoice x = new HadForVoice();
        due(34, "all of them", x.span(0), 204);
        due(34, "the least TIMES of all", x.span(1), 0);
        due(34, "its least FEE", x.span(2), 0);
    }

    /** "What the second WORTH is more than the first (0 at least)": one less, as much, one more. */
    private static void whatIsMore() {
        for (int given = 0; given <= 99; given += 33) {
            for (int got = Math.max(0, given - 1); got <= Math.min(99, given + 1); got++) {
                for (int asked = 0; asked <= 1; asked++) {
                    HadForVoice x = new HadForVoice();
                    x.report(given, got, asked);
                    due(34, given + " for " + got + ": " + asked, x.span(0), got <= given ? 4 : 1 + asked);
                }
            }
        }
    }

    /** "LIAR: if none FITS, the least REPORT but for which some would": each of 1 to 6, and two of them. */
    private static void liars() {
        for (int many = 3; many <= 6; many++) {
            for (int k = 0; k < many; k++) {
                HadForVoice x = new HadForVoice();
                for (int r = 0; r < many; r++) {
                    x.report(0, 10 * r, 20 * r + 7 + (r == k ? 1 : 0));
                }
                due(34, "none FITS", x.span(0), 0);
                due(35, k + " of " + many, x.liar(), k);
            }
            HadForVoice y = new HadForVoice();
            for (int r = 0; r < many; r++) {
                y.report(0, 0, r < 2 ? 51 + r : 7);
            }
            due(35, "two of " + many + " are wrong", y.liar(), -3);
        }
        HadForVoice x = new HadForVoice();
        due(35, "without REPORTS all FIT", x.liar(), -3);
        x.report(5, 5, 50);
        due(35, "it FITS", x.liar(), -3);
        x.forget();
        x.report(5, 5, 51);
        due(35, "but for the only one all FIT", x.liar(), 0);
        x.report(5, 5, 50);
        due(35, "the least of them", x.liar(), 0);
        x.forget();
        x.report(5, 5, 50);
        x.report(5, 5, 49);
        due(35, "but for either one some FIT", x.liar(), 0);
        x.report(5, 5, 49);
        due(35, "but for 0 alone", x.liar(), 0);
        x.report(5, 5, 50);
        due(35, "there is no such REPORT", x.liar(), -3);
    }

    /** "z becomes z * 1103515245 + 12345: of CHANGES that CAN BE, by numbers (from 0), number (z >>> 16) modulo". */
    private static void drawnByNumbers() {
        int[] seeds = {0, 1, -1, 2, 12345, Check.MIN, Check.MAX, Check.MIN + 1, 65535, 65536, -65536, 998877};
        for (int seed : seeds) {
            for (int many = 1; many <= 6; many++) {
                HadForVoice x = Check.lacking(many, many);
                due(36, "seed(" + seed + ")", x.seed(seed), 1);
                int z = seed * 1103515245 + 12345;
                due(37, "of " + many + " by " + seed, x.draw(), 10 * ((z >>> 16) % many) + 9);
                due(36, "z behind it", x.seed(5), z);
                due(36, "z told", x.seed(6), 5);
                due(11, "it is in THE LEDGER", x.state(3), 1);
            }
        }
    }

    /** Of exchanges, too: by the numbers that cans() tells, one behind the other. */
    private static void drawnOfExchanges() {
        for (int seed = -20; seed <= 20; seed++) {
            HadForVoice x = Check.circle();
            x.jar(0, seed & 1);
            x.jar(1, seed & 3);
            x.change(0, 3, 10);
            x.seed(seed * 123456789);
            int z = seed * 123456789;
            for (int drawn = 0; drawn < 3; drawn++) {
                int[] cans = new int[21];
                int many = 0;
                for (int c = x.cans(-1); c >= 0; c = x.cans(c)) {
                    cans[many] = c;
                    many++;
                }
                z = many == 0 ? z : z * 1103515245 + 12345;
                due(37, "draw() by " + seed + " of " + many, x.draw(), many == 0 ? -3 : cans[(z >>> 16) % many]);
            }
            due(36, "z behind them", x.seed(1), z);
        }
    }

    /** "NONE: none CAN BE (z stays, too)". */
    private static void drawnNone() {
        for (int jar = 0; jar <= 1; jar++) {
            HadForVoice x = Check.lacking(1, jar);
            due(37, "draw() with " + jar, x.draw(), jar == 0 ? -3 : 9);
            due(37, "draw() again", x.draw(), -3);
            due(36, "z", x.seed(0), jar == 0 ? 1 : 1103527590);
            due(11, "THE LEDGER", x.state(3), jar);
        }
    }

    /** "Behind how many of n (1 to 60) RUNS ... all are WHOLE". */
    private static void runs() {
        for (int n = 1; n <= 60; n++) {
            for (int many = 0; many <= 6; many++) {
                HadForVoice x = Check.lacking(many, many);
                due(38, "often(" + n + ") of " + many, x.often(n), n);
                x.jar(1, Math.max(0, many - 1));
                due(38, "often(" + n + ") of " + many + ", one too few", x.often(n), many == 0 ? n : 0);
                due(38, "THE LEDGER", x.state(3), 0);
                due(38, "z", x.seed(1), 1);
            }
        }
    }

    /** "z goes on from one to the next": only 12 ahead of 2 makes all WHOLE, by each n. */
    private static void runsByZ() {
        HadForVoice x = Check.circle();
        x.meets(0, 1, false);
        int z = 1;
        int whole = 0;
        for (int n = 1; n <= 60; n++) {
            z = z * 1103515245 + 12345;
            if ((z >>> 16) % 2 == 1) {
                whole++;
                z = z * 1103515245 + 12345;
            }
            due(38, "often(" + n + ")", x.often(n), whole);
        }
        due(38, "z is as it was", x.seed(2), 1);
        due(38, "nobody is WHOLE", x.state(0), 0);
    }
}
