/** Part 2 of the terms, sentence by sentence: at each bound that it names and a step to either side. */
public final class RulesBoundsTest {
    private static final Check CHECK = new Check();
    private static final String[] KINDS = {"person", "maid", "miser", "widow", "prince", "beast"};
    private static final String[] FACTS = {"has", "need", "coins", "whole", "number"};
    private static final String[] OTHERS = {
        "if", "more", "less", "free", "or", "and", "not", "(", ")", "<", "=", ">", ";", "5", "99", "100", "0099",
        "9999", "10000", "00005", "witch", "x", "!", "-", "A", "\u00ff"
    };
    private static final String EIGHT = "maid free;".repeat(8);

    public static void main(String[] args) {
        theTape();
        theLowestFirst();
        itIsUsedUp();
        whatCanStand();
        openOnes();
        eightRules();
        numbersOfRules();
        numbersOfConditions();
        everyByte();
        untilTheEnd();
        blanks();
        allOfTheTape();
        facts();
        whatAnotherTextLeft();
        joined();
        theFirstThatHolds();
        CHECK.end();
    }

    private static void due(int promise, String call, long got, long want) {
        CHECK.due(promise, call, got, want);
    }

    private static int told(String text) {
        return Check.rules(new HadForVoice(), text);
    }

    /** "THE TAPE takes bytes, 200 at most"; "n bytes (1 to 8)"; "FULL: more than 200". */
    private static void theTape() {
        for (int there = 188; there <= 200; there++) {
            for (int n = 0; n <= 9; n++) {
                HadForVoice x = new HadForVoice();
                Check.feed(x, " ".repeat(there));
                int due = n < 1 || n > 8 ? -1 : there + n > 200 ? -2 : there + n;
                due(12, "feed of " + n + " to " + there, x.feed(0x2020202020202020L, n), due);
                due(52, "many(5)", x.many(5), due < 0 ? there : due);
                due(13, "blanks alone are no RULE", x.rules(), 0);
            }
        }
    }

    /** "The lowest of eight first", and of eight no more than n. */
    private static void theLowestFirst() {
        String text = "maid    ";
        long eight = 0;
        for (int k = 7; k >= 0; k--) {
            eight = eight << 8 | text.charAt(k);
        }
        for (int n = 1; n <= 8; n++) {
            HadForVoice x = new HadForVoice();
            due(12, "feed of " + n, x.feed(eight, n), n);
            due(13, "the first " + n, x.rules(), n < 4 ? -100 : -100 - n);
            x.feed(eight, n);
            x.feed(-1L, n);
            due(13, n + " and as many bytes of 255", x.rules(), n < 4 ? -100 : -100 - n);
        }
        for (int k = 0; k < 8; k++) {
            HadForVoice x = new HadForVoice();
            x.feed(0x2020202020202020L ^ 0xA0L << 8 * k, 8);
            due(13, "the byte of 128 at " + k, x.rules(), -100 - k);
        }
    }

    /** "rules() uses it up", right or not; "how many; -100 less its FAULT"; a FAULT changes nothing else. */
    private static void itIsUsedUp() {
        HadForVoice x = new HadForVoice();
        due(13, "an empty TAPE", x.rules(), 0);
        due(13, "one", Check.rules(x, "maid free;"), 1);
        due(52, "used up", x.many(5), 0);
        due(13, "a FAULT at 0", Check.rules(x, "no"), -100);
        due(52, "used up", x.many(5), 0);
        due(52, "the one stays", x.many(1), 1);
        due(13, "a FAULT at 9", Check.rules(x, "maid free"), -109);
        due(52, "the one stays", x.many(1), 1);
        due(13, "two", Check.rules(x, "maid free;miser free;"), 2);
        due(52, "in place of all", x.many(1), 2);
        due(13, "none", x.rules(), 0);
        due(52, "in place of all", x.many(1), 0);
    }

    /** At one place of a TEXT each NAME, NUMBER, byte or end there is: those that can stand there, and all others. */
    private static void place(String ahead, String allowed) {
        String[] can = allowed.split(" ");
        for (String[] all : new String[][] {KINDS, FACTS, OTHERS}) {
            for (String one : all) {
                String text = ahead + one;
                int due = !isOneOf(one, can) ? -100 - ahead.length()
                    : one.equals(";") ? 1 + many(ahead) : -100 - text.length();
                due(13, "\"" + text + "\"", told(text), due);
                due(13, "\"" + text + "\" and a blank", told(text + " "), due == -100 - text.length() ? due - 1 : due);
            }
        }
        int due = isOneOf("end", can) ? many(ahead) : -100 - ahead.length();
        due(13, "\"" + ahead + "\" and the end", told(ahead), due);
    }

    private static boolean isOneOf(String one, String[] all) {
        for (String a : all) {
            if (a.equals(one)) {
                return true;
            }
        }
        return false;
    }

    private static int many(String ahead) {
        return ahead.length() - ahead.replace(";", "").length();
    }

    /** "TEXT: { KIND DO ; | KIND if COND DO ; }", COND, ALL, ONE, VALUE, SIGN, place by place. */
    private static void whatCanStand() {
        String kinds = String.join(" ", KINDS);
        String values = String.join(" ", FACTS) + " 5 99 100 0099 9999";
        String deeds = "more less free";
        place("", kinds + " end");
        for (String kind : KINDS) {
            place(kind + " ", "if " + deeds);
        }
        place("maid more ", "5 99 0099");
        place("maid less ", "5 99 0099");
        place("maid more 5 ", ";");
        place("maid less 99 ", ";");
        place("maid free ", ";");
        place("maid free; ", kinds + " end");
        place("maid free;maid more 5;", kinds + " end");
        String[] conds = {"", "not ", "not not ", "( ", "not ( not ", "has<5 and ", "1=1 or ", "((1=1)or "};
        for (String ahead : conds) {
            place("maid if " + ahead, values + " not (");
        }
        for (String value : new String[] {"has", "need", "coins", "whole", "number", "0", "9999"}) {
            place("maid if " + value + " ", "< = >");
            place("maid if ( 1=1 or not " + value + " ", "< = >");
            for (String sign : new String[] {"<", "=", ">"}) {
                place("maid if " + value + sign + " ", values);
            }
        }
        place("maid if 1<5 ", "and or " + deeds);
        place("maid if not 1=number ", "and or " + deeds);
        place("maid if 1=1 and 1=1 ", "and or " + deeds);
        place("maid if (1=1) ", "and or " + deeds);
        place("maid if ((1=1)and(1=1)) ", "and or " + deeds);
        place("maid if (1=1 ", "and or )");
        place("maid if ((1=1) ", "and or )");
        place("maid if 1=1 more ", "5 99 0099");
        place("maid if 1=1 free ", ";");
        place("maid if 1=1 less 5 ", ";");
        place("maid if 1=1 free; ", kinds + " end");
    }

    /** "At most 3 "(" are open within one another ... the fourth "("". */
    private static void openOnes() {
        for (int open = 0; open <= 5; open++) {
            String text = "maid if " + "(".repeat(open) + "1=1" + ")".repeat(open) + " free;";
            due(13, text, told(text), open <= 3 ? 1 : -100 - 11);
            text = "maid if 1=1 and " + "(not ".repeat(open) + "1=1" + ")".repeat(open) + " free;";
            due(13, text, told(text), open <= 3 ? 1 : -100 - 16 - 3 * 5);
            text = "maid if (((1=1)))and" + "(".repeat(open) + "1=1" + ")".repeat(open) + " free;";
            due(13, text, told(text), open <= 3 ? 1 : -100 - 23);
            text = "maid if (1=1 or (1=1 and " + "(".repeat(open) + "1=1" + ")".repeat(open) + ")) free;";
            due(13, text, told(text), open <= 1 ? 1 : -100 - 26);
            text = "maid if (((1=1)or" + "(".repeat(open) + "1=1" + ")".repeat(open) + ")) free;";
            due(13, text, told(text), open <= 1 ? 1 : -100 - 18);
        }
    }

    /** "8 RULES at most ... the first NAME of the ninth RULE". */
    private static void eightRules() {
        for (int many = 0; many <= 10; many++) {
            due(13, many + " RULES", told("maid free;".repeat(many)), many <= 8 ? many : -180);
            due(13, many + " RULES with blanks", told("maid free; ".repeat(many)), many <= 8 ? many : -188);
        }
        place(EIGHT, "end");
        place(EIGHT + "   ", "end");
        HadForVoice x = new HadForVoice();
        x.worth(1, 10);
        x.person(1, 0, 1, 0);
        for (int many = 7; many <= 9; many++) {
            Check.rules(x, "miser free;".repeat(many - 1) + "maid more " + many + ";");
            due(3, "the last of " + many, x.personOf(0, 4), many <= 8 ? 10 + many : 18);
        }
    }

    /** "More N | less N (0 to 99)": "N above 99 behind more or less". */
    private static void numbersOfRules() {
        String[] right = {"0", "1", "9", "10", "98", "99", "00", "000", "0000", "0099", "099", "0001"};
        String[] wrong = {"100", "0100", "101", "999", "1000", "9999", "00099", "00000", "10000", "9999999999999"};
        for (String n : right) {
            HadForVoice x = new HadForVoice();
            x.worth(1, 99);
            x.person(1, 0, 1, 0);
            due(13, "more " + n, Check.rules(x, "maid more " + n + ";"), 1);
            due(3, "more " + n, x.personOf(0, 4), 99 + Integer.parseInt(n));
            due(13, "less " + n, Check.rules(x, "maid less " + n + ";"), 1);
            due(3, "less " + n, x.personOf(0, 4), 99 - Integer.parseInt(n));
        }
        for (String n : wrong) {
            due(13, "more " + n, told("maid more " + n + ";"), -110);
            due(13, "less " + n, told("maid  less   " + n + ";"), -113);
            due(13, "if 1=1 more " + n, told("maid if 1=1 more " + n + ";"), -117);
        }
    }

    /** "NUMBERS 0 to 9999", "rows of digits (1 to 4)", "a NUMBER of more digits". */
    private static void numbersOfConditions() {
        String[] right = {"0", "1", "9", "10", "99", "100", "999", "1000", "9998", "9999", "0000", "0999", "007"};
        for (String n : right) {
            int v = Integer.parseInt(n);
            due(13, n + " = " + v, holds(n + "=" + v) ? 1 : 0, 1);
            due(13, n + " < " + v, holds(n + "<" + v) ? 1 : 0, 0);
            due(13, v + " > " + n, holds(v + ">" + n) ? 1 : 0, 0);
            if (v > 0) {
                due(13, n + " > one less", holds(n + ">" + (v - 1)) ? 1 : 0, 1);
                due(13, "one less < " + n, holds((v - 1) + "<" + n) ? 1 : 0, 1);
            }
        }
        for (String n : new String[] {"10000", "00000", "00009", "99999", "4294967297", "100000000000000000000"}) {
            due(13, n + " ahead", told("maid if " + n + "=1 free;"), -108);
            due(13, n + " behind", told("maid if 1= " + n + " free;"), -111);
            due(13, n + " where none can stand", told("maid " + n), -105);
        }
    }

    private static boolean holds(String cond) {
        HadForVoice x = new HadForVoice();
        x.fee(1);
        x.person(1, 0, 1, 0);
        due(13, "RULES with " + cond, Check.rules(x, "maid if " + cond + " free;"), 1);
        return x.personOf(0, 4) == 0;
    }

    /** "NAMES are rows of letters a to z, NUMBERS rows of digits ... blanks (32)": every byte at several places. */
    private static void everyByte() {
        for (int b = 0; b < 256; b++) {
            char c = (char) b;
            boolean isLetter = c >= 'a' && c <= 'z';
            boolean isDigit = c >= '0' && c <= '9';
            boolean isBlank = b == 32;
            boolean isSign = c == '<' || c == '=' || c == '>';
            due(13, "byte " + b + " alone", told("" + c), isBlank ? 0 : -100);
            due(13, "byte " + b + " behind a KIND", told("maid" + c), isLetter ? -100 : isBlank ? -105 : -104);
            due(13, "byte " + b + " ahead of a KIND", told(c + "maid free;"), isBlank ? 1 : -100);
            due(13, "byte " + b + " in a NAME", told("ma" + c + "id free;"), -100);
            due(13, "byte " + b + " behind free", told("maid free" + c + ";"), isBlank ? 1 : isLetter ? -105
                : c == ';' ? -110 : -109);
            due(13, "byte " + b + " behind a NUMBER", told("maid more 9" + c + ";"), isBlank || isDigit ? 1
                : c == ';' ? -112 : -111);
            due(13, "byte " + b + " in a NUMBER", told("maid if 1" + c + "2 free;"), isSign ? 1
                : isDigit ? -112 : isBlank ? -110 : -109);
            due(13, "byte " + b + " at the end", told("maid free;" + c), isBlank ? 1 : -110);
        }
    }

    /** "Or the end (how many bytes there are), if more must come": a TEXT cut off behind each of its bytes. */
    private static void untilTheEnd() {
        String text = "maid if(has<12)and not need=10 less 5;";
        int[][] names = {{0, 4}, {5, 7}, {8, 11}, {15, 18}, {19, 22}, {23, 27}, {31, 35}};
        for (int size = 0; size <= text.length(); size++) {
            int due = -100 - size;
            for (int[] name : names) {
                due = size > name[0] && size < name[1] ? -100 - name[0] : due;
            }
            due = size == 0 ? 0 : size == text.length() ? 1 : due;
            due(13, "\"" + text.substring(0, size) + "\"", told(text.substring(0, size)), due);
        }
    }

    /** "Blanks (32) part them, and stand elsewhere as one likes". */
    private static void blanks() {
        String[] parts = {"maid", "if", "not", "(", "has", "<", "12", "or", "2", "=", "need", ")", "less", "5", ";"};
        for (int many = 1; many <= 3; many++) {
            String gap = " ".repeat(many);
            due(13, "gaps of " + many, told(gap + String.join(gap, parts) + gap), 1);
        }
        due(13, "as few as can be", told("maid if not(has<12or 2=need)less 5;"), 1);
        due(13, "a NUMBER and a NAME part themselves", told("maid if 1=1less5;"), 1);
        due(13, "two NAMES don't", told("maid ifnot 1=1 free;"), -105);
        due(13, "nor do they behind a NUMBER", told("maid if 1=1lessfree;"), -111);
        due(13, "two NUMBERS are not one", told("maid more 9 9;"), -112);
        due(13, "a blank parts a NAME", told("maid mo re 9;"), -105);
    }

    /** A TEXT of all 200 bytes, right to its last one; and conditions as long as can be. */
    private static void allOfTheTape() {
        for (int size = 198; size <= 200; size++) {
            String text = " ".repeat(size - 10) + "maid free;";
            due(13, "of " + size, told(text), 1);
            due(13, "cut off at " + size, told(" ".repeat(size - 9) + "maid free"), -100 - size);
            due(13, "a byte at " + size, told("maid free;" + " ".repeat(size - 11) + "!"), -100 - (size - 1));
        }
        for (int many : new int[] {1, 2, 24, 25}) {
            due(13, many + " right ones more", holds("1=1" + "and 1=1".repeat(many)) ? 1 : 0, 1);
            due(13, many + " right ones, the last one wrong", holds("1=1 and " + "1=1and ".repeat(many - 1) + "1=2")
                ? 1 : 0, 0);
            due(13, many + " wrong ones more", holds("1=2" + "or 1=2".repeat(many)) ? 1 : 0, 0);
            due(13, many + " wrong ones, the last one right", holds("1=2 or " + "1=2or ".repeat(many - 1) + "1=1")
                ? 1 : 0, 1);
            due(13, many + " times not", holds("not ".repeat(many) + "1=1") ? 1 : 0, many % 2 == 0 ? 1 : 0);
        }
        due(13, "48 times not", told("maid if " + "not ".repeat(48)), -300);
        String most = "maid if " + "1=1or".repeat(36) + " 1=1 free;  ";
        due(13, "37 of them in 200 bytes", most.length(), 200);
        due(13, "37 of them", told(most), 1);
    }

    /** "FACTS: WORTH of what the PERSON HAS, of what it NEEDS; its COINS; how many PEOPLE are WHOLE; its number". */
    private static void facts() {
        for (int p = 0; p < 6; p++) {
            int[] values = {p % 2 == 0 ? 50 : 99, (p > 3) == (p % 2 == 0) ? 50 : 99, p == 3 ? 999 : 10 * p, 2, p};
            for (int f = 0; f < 5; f++) {
                for (int n = Math.max(0, values[f] - 1); n <= values[f] + 1; n++) {
                    against(sixWhoDiffer(), p, FACTS[f], n, values[f]);
                }
            }
        }
        for (int many = 0; many <= 6; many++) {
            HadForVoice y = new HadForVoice();
            y.fee(1);
            for (int p = 0; p < 6; p++) {
                y.person(1, 0, p < many ? 0 : 1, 0);
            }
            Check.rules(y, "maid if whole = " + many + " free;");
            due(3, many + " are WHOLE", y.personOf(0, 4), 0);
        }
    }

    /** By turns they have a 50 and need a 99, and the other way round; the last two are WHOLE. */
    private static HadForVoice sixWhoDiffer() {
        HadForVoice x = new HadForVoice();
        x.worth(0, 50);
        x.worth(1, 99);
        for (int p = 0; p < 6; p++) {
            x.person(1, p % 2, p > 3 ? p % 2 : 1 - p % 2, p == 3 ? 999 : 10 * p);
        }
        return x;
    }

    private static void against(HadForVoice x, int p, String fact, int n, int value) {
        String[] signs = {"<", "=", ">"};
        boolean[] holds = {value < n, value == n, value > n};
        for (int s = 0; s < 3; s++) {
            due(13, "RULES", Check.rules(x, "maid free; maid free;"), 2);
            due(13, "RULES", Check.rules(x, "maid if " + fact + signs[s] + n + " free; maid more 99;"), 2);
            due(13, fact + signs[s] + n + " of " + p, x.personOf(p, 4) == 0 ? 1 : 0, holds[s] ? 1 : 0);
            due(13, "RULES", Check.rules(x, "maid if " + n + signs[2 - s] + fact + " free; maid more 99;"), 2);
            due(13, n + signs[2 - s] + fact + " of " + p, x.personOf(p, 4) == 0 ? 1 : 0, holds[s] ? 1 : 0);
        }
    }

    /** What the TAPE had told before stands behind no later TEXT. */
    private static void whatAnotherTextLeft() {
        HadForVoice x = new HadForVoice();
        String[] texts = {
            "maid more ", "maid if 1", "mai", "maid", "maid free;maid if 1=1 more 9", "maid free", "maid more 5;"
        };
        int[] dues = {-110, -109, -100, -104, -128, -109, 1};
        for (String old : new String[] {"9", "z", "maid free;", "<", " ", "("}) {
            for (int k = 0; k < texts.length; k++) {
                Check.rules(x, old.repeat(200 / old.length()));
                due(13, "\"" + texts[k] + "\" behind " + old, Check.rules(x, texts[k]), dues[k]);
            }
            x = new HadForVoice();
        }
        due(13, "digits to the end of 200 bytes", told("maid more " + " ".repeat(188) + "99"), -300);
        due(13, "five of them", told("maid more " + " ".repeat(185) + "00099"), -295);
        due(13, "letters to the end of 200 bytes", told(" ".repeat(196) + "maid"), -300);
        due(13, "letters to the end of 200 bytes", told(" ".repeat(196) + "mald"), -296);
    }

    /** "COND: ALL { or ALL }  ALL: ONE { and ONE }  ONE: { not } (...)": by all that three of them can be. */
    private static void joined() {
        for (int bits = 0; bits < 8; bits++) {
            boolean a = (bits & 1) != 0;
            boolean b = (bits & 2) != 0;
            boolean c = (bits & 4) != 0;
            String[] conds = {
                "A or B or C", "A and B and C", "A or B and C", "A and B or C", "(A or B) and C", "A and (B or C)",
                "not A and B", "not A or B", "not (A and B)", "not (A or B) or C", "not not A and not B",
                "A and not (B or not C)", "not A or not B and not C", "((A))or(B and(C or A))", "A and B or C and not A"
            };
            boolean[] dues = {
                a || b || c, a && b && c, a || b && c, a && b || c, (a || b) && c, a && (b || c),
                !a && b, !a || b, !(a && b), !(a || b) || c, a && !b,
                a && !(b || !c), !a || !b && !c, a || b && (c || a), a && b || c && !a
            };
            for (int k = 0; k < conds.length; k++) {
                String cond = conds[k].replace("A", a ? "1=1" : "1=2").replace("B", b ? "0<1" : "1<1")
                    .replace("C", c ? "2>1" : "1>1");
                due(13, cond, holds(cond) ? 1 : 0, dues[k] ? 1 : 0);
            }
        }
    }

    /** "The first of THE RULES whose KIND is its or above it, and whose condition holds": the first to the eighth. */
    private static void theFirstThatHolds() {
        for (int first = 0; first < 8; first++) {
            StringBuilder byCond = new StringBuilder();
            StringBuilder byKind = new StringBuilder();
            for (int k = 0; k < 8; k++) {
                byCond.append("maid if 1=").append(k < first ? 2 : 1).append(" more ").append(k + 1).append(';');
                byKind.append(k < first ? "beast" : "person").append(" more ").append(k + 1).append(';');
            }
            HadForVoice x = new HadForVoice();
            x.person(1, 0, 1, 0);
            due(13, "eight", Check.rules(x, byCond.toString()), 8);
            due(3, "the first that holds: " + first, x.personOf(0, 4), first + 1);
            due(13, "eight", Check.rules(x, byKind.toString()), 8);
            due(3, "the first of its KIND: " + first, x.personOf(0, 4), first + 1);
        }
    }
}
