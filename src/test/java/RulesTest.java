/** Promises 12 and 13: THE TAPE and THE RULES. */
public final class RulesTest {
    private static final Check CHECK = new Check();

    public static void main(String[] args) {
        feed();
        rulesThatChangeWhatSheAsks();
        conditions();
        faults();
        whatAFaultLeaves();
        CHECK.end();
    }

    private static void due(int promise, String call, long got, long want) {
        CHECK.due(promise, call, got, want);
    }

    private static void feed() {
        HadForVoice x = new HadForVoice();
        due(12, "feed(0, 0)", x.feed(0, 0), -1);
        due(12, "feed(0, 9)", x.feed(0, 9), -1);
        due(12, "feed(0, -1)", x.feed(0, -1), -1);
        due(12, "the lowest first", x.feed('m' | 'a' << 8 | 'i' << 16 | (long) 'd' << 24, 4), 4);
        for (int i = 0; i < 24; i++) {
            due(12, "blanks", x.feed(0x2020202020202020L, 8), 12 + 8 * i);
        }
        due(12, "above 200", x.feed(0x2020202020L, 5), -2);
        due(12, "bad ahead of full", x.feed(0, 9), -1);
        due(12, "200 just so", x.feed(0x20202020L, 4), 200);
        due(12, "one more", x.feed(32, 1), -2);
        due(12, "200 there", x.many(5), 200);
        due(13, "more must come at the end of 200", x.rules(), -300);
        due(13, "it's used up", x.many(5), 0);
        due(12, "from the beginning", x.feed(32, 1), 1);
    }

    /** What a maid with 50 COINS who has a 10 and needs a 40 is asked, by such RULES. */
    private static int asked(String rules) {
        HadForVoice x = Check.things();
        x.person(1, 0, 3, 50);
        int many = Check.rules(x, rules);
        return many < 0 ? many : x.personOf(0, 4);
    }

    private static void rulesThatChangeWhatSheAsks() {
        due(13, "none", asked(""), 30);
        due(13, "more", asked("maid more 5;"), 35);
        due(13, "less", asked("maid less 5;"), 25);
        due(13, "less, 0 at least", asked("maid less 99;"), 0);
        due(13, "free", asked("maid free;"), 0);
        due(13, "above it", asked("person more 99;"), 129);
        due(13, "not above it", asked("miser free; widow free; prince free; beast free;"), 30);
        due(13, "the first", asked("person more 1; maid more 2;"), 31);
        due(13, "the first that holds", asked("maid if 1 < 0 more 1; person more 2; maid more 3;"), 32);
        due(13, "blanks where one likes", asked("  maid   if coins=50and need>39more007  ;  "), 37);
        due(13, "no more than 4 digits, 99 with noughts", asked("maid more 0099;"), 129);
        HadForVoice x = Check.things();
        for (int kind = 1; kind <= 5; kind++) {
            x.person(kind, 0, 3, 100);
        }
        due(13, "two rules", Check.rules(x, "miser more 40; prince free;"), 2);
        due(13, "two", x.many(1), 2);
        due(13, "a maid's", x.personOf(0, 4), 30);
        due(13, "a miser's", x.personOf(1, 4), 60);
        due(13, "a widow's, under a miser", x.personOf(2, 4), 30);
        due(13, "a prince's", x.personOf(3, 4), 0);
        due(13, "a beast's, under a prince", x.personOf(4, 4), 0);
        due(13, "one in place of these", Check.rules(x, "beast less 10;"), 1);
        due(13, "a miser's", x.personOf(1, 4), 20);
        due(13, "a prince's", x.personOf(3, 4), 60);
        due(13, "a beast's: less ahead of its kind", x.personOf(4, 4), 33);
        due(13, "eight", Check.rules(x, "maid free;maid free;maid free;maid free;maid free;maid free;maid free;"
            + "widow more 1;"), 8);
        due(13, "the eighth", x.personOf(2, 4), 10);
        due(13, "an empty tape", x.rules(), 0);
        due(13, "no rules", x.many(1), 0);
        due(13, "a maid's", x.personOf(0, 4), 30);
    }

    private static boolean holds(String cond) {
        HadForVoice x = Check.things();
        x.person(1, 1, 1, 0);
        x.person(1, 2, 2, 0);
        x.person(1, 0, 3, 50);
        int many = Check.rules(x, "maid if " + cond + " free;");
        due(13, "rules for " + cond, many, 1);
        return x.personOf(2, 4) == 0;
    }

    private static void conditions() {
        String[] right = {
            "has = 10", "need = 40", "coins = 50", "whole = 2", "number = 2", "9999 > 0000", "1 < 2", "not 1 > 2",
            "not not 1 < 2", "1 = 1 or 1 = 2 and 1 = 2", "(1 = 1)", "(((1 = 1)))", "not (1 = 2 or 2 = 1)",
            "((1=1)) and ((1=1) or ((2=3)))", "1=2 or 1=2 or has<need", "not 1=2 and not 2=1", "1=1 and(1=2 or 1=1)",
            "2 = 2 and 3 = 3 and 4 = 4", "10 = has", "40 = need", "50 = coins", "2 = whole", "2 = number"
        };
        String[] wrong = {
            "has = 11", "need < 40", "coins > 50", "whole = 3", "number < 2", "1 > 1", "1 < 1", "not 1 = 1",
            "not not not 1 < 2", "(1 = 1 or 1 = 2) and 1 = 2", "not (1 = 1)", "1=1 and 1=2", "1=2 or 1=3",
            "not 1=1 or 1=2", "(1=2 or 1=1) and (1=2)", "1=2 and 1=1 or 1=2"
        };
        for (String cond : right) {
            due(13, cond, holds(cond) ? 1 : 0, 1);
        }
        for (String cond : wrong) {
            due(13, cond, holds(cond) ? 1 : 0, 0);
        }
    }

    private static void fault(String text, int place) {
        HadForVoice x = new HadForVoice();
        due(13, "rules() of \"" + text + "\"", Check.rules(x, text), -100 - place);
    }

    private static void faults() {
        fault("witch free;", 0);
        fault("  Maid free;", 2);
        fault(";", 0);
        fault("12", 0);
        fault("maid", 4);
        fault("maid  ", 6);
        fault("maid when", 5);
        fault("maid more", 9);
        fault("maid more;", 9);
        fault("maid more 100;", 10);
        fault("maid less 100;", 10);
        fault("maid more 00099;", 10);
        fault("maid more has;", 10);
        fault("maid free", 9);
        fault("maid free maid free;", 10);
        fault("maid free;;", 10);
        fault("maid free 5;", 10);
        fault("maid if free;", 8);
        fault("maid if 1;", 9);
        fault("maid if 1 free;", 10);
        fault("maid if 1 = free;", 12);
        fault("maid if 1 < > 2 free;", 12);
        fault("maid if 12345 = 1 free;", 8);
        fault("maid if 1 = 99999 free;", 12);
        fault("maid if 1 = 1 or free;", 17);
        fault("maid if 1 = 1 and and", 18);
        fault("maid if 1 = 1 not 1 = 1 free;", 14);
        fault("maid if not free;", 12);
        fault("maid if 1 = 1;", 13);
        fault("maid if (1 = 1 free;", 15);
        fault("maid if 1 = 1) free;", 13);
        fault("maid if () free;", 9);
        fault("maid if ((((1=1)))) free;", 11);
        fault("maid if (((1=1))) and (((not (1=1)))) free;", 29);
        fault("maid if person = 1 free;", 8);
        fault("maid if 1 ! 1 free;", 10);
        fault("maid if 1 = -1 free;", 12);
        fault("maid\tfree;", 4);
        fault("maid \u00e9", 5);
        fault("maid if(1=1)and(1=1", 19);
        fault("maidfree;", 0);
        fault("maid morefive;", 5);
        fault("maidz free;", 0);
        fault("zmaid free;", 0);
        fault("maid freea;", 5);
        fault("maid if 1`2 free;", 9);
        fault("maid if 1{2 free;", 9);
        fault("maid if 1/2 free;", 9);
        fault("maid if 1:2 free;", 9);
        fault(";".repeat(200), 0);
        fault("maid if " + "not ".repeat(48), 200);
        fault("maid if " + "(1=1)and".repeat(24), 200);
        String eight = "maid free;maid free;maid free;maid free;maid free;maid free;maid free;maid free;";
        fault(eight + " maid free;", 81);
        fault(eight + " nobody", 81);
        fault(eight + ";", 80);
        HadForVoice x = new HadForVoice();
        due(13, "eight and blanks", Check.rules(x, eight + "  "), 8);
    }

    private static void whatAFaultLeaves() {
        HadForVoice x = Check.things();
        x.person(1, 0, 3, 50);
        Check.rules(x, "maid more 1;");
        due(13, "a fault", Check.rules(x, "maid free; maid fee;"), -116);
        due(13, "the tape is used up", x.many(5), 0);
        due(13, "the rules stay", x.many(1), 1);
        due(13, "as they were", x.personOf(0, 4), 31);
    }
}
