import java.lang.reflect.InvocationTargetException;
import java.lang.reflect.Method;
import java.util.ArrayList;
import java.util.Arrays;
import java.util.List;
import java.util.Random;

/** Runs of calls drawn by lot (by fixed seeds) on HadForVoice and on Model: their answers must be the same. */
public final class AgainstModelTest {
    private static final int[] EDGES = {Integer.MIN_VALUE, Integer.MAX_VALUE, -1, -2, 0, 1, 9, 10, 59, 99, 100, 1000};
    private static final String[] WORDS = {
        "person", "maid", "miser", "widow", "prince", "beast", "if", "more", "less", "free", "or", "and", "not", "has",
        "need", "coins", "whole", "number", "(", ")", "<", "=", ">", ";", "7", "99", "100", "9999", "10000", " ", "  ",
        "persons", "A", "\u00ff", "-"
    };

    private final Random lot;
    private final HadForVoice real = new HadForVoice();
    private final Model model = new Model();
    private final List<String> said = new ArrayList<>();
    private final int things;
    private final boolean isSmall;

    private AgainstModelTest(long seed) {
        lot = new Random(seed);
        things = 2 + lot.nextInt(7);
        isSmall = lot.nextInt(10) < 5;
    }

    public static void main(String[] args) throws Exception {
        int runs = args.length > 0 ? Integer.parseInt(args[0]) : 400;
        long first = args.length > 1 ? Long.parseLong(args[1]) : 1;
        for (long seed = first; seed < first + runs; seed++) {
            String wrong = new AgainstModelTest(seed).run();
            if (wrong != null) {
                System.out.println("seed " + seed + ": " + wrong);
                System.exit(1);
            }
        }
        System.out.println(runs + " runs as in the model");
    }

    private String run() throws Exception {
        String wrong = setUp();
        while (wrong == null && said.size() < 512) {
            wrong = step();
        }
        return wrong;
    }

    private String setUp() throws Exception {
        String wrong = null;
        for (int t = 0; t < 8 && wrong == null; t++) {
            wrong = call("worth", t, lot.nextInt(100));
        }
        int full = lot.nextInt(4) == 0 ? 10 : 3;
        for (int t = 0; t < 8 && wrong == null && lot.nextInt(3) > 0; t++) {
            wrong = call("jar", t, lot.nextInt(full));
        }
        int people = lot.nextInt(20) == 0 ? 0 : isSmall ? 1 + lot.nextInt(4) : 4 + lot.nextInt(3);
        int rich = lot.nextInt(1000);
        for (int p = 0; p < people && wrong == null; p++) {
            wrong = call("person", 1 + lot.nextInt(5), thing(), thing(), lot.nextInt(rich + 1));
        }
        int dense = 1 + lot.nextInt(4);
        for (int p = 0; p < people; p++) {
            for (int q = p + 1; q < people && wrong == null; q++) {
                if (lot.nextInt(4) < dense) {
                    wrong = call("meets", p, q, true);
                }
            }
        }
        return wrong != null ? wrong : call("keep");
    }

    private int thing() {
        return lot.nextInt(things);
    }

    private int some(int least, int most) {
        if (lot.nextInt(40) == 0) {
            return EDGES[lot.nextInt(EDGES.length)];
        }
        if (lot.nextInt(20) == 0) {
            return lot.nextBoolean() ? least - 1 : most + 1;
        }
        return least + lot.nextInt(most - least + 1);
    }

    private int p() {
        return some(0, Math.max(0, model.w.people.size() - 1));
    }

    private int aThing() {
        return some(0, things - 1);
    }

    private String step() throws Exception {
        boolean isHeavy = model.w.people.size() > 4 && lot.nextInt(3) > 0;
        switch (lot.nextInt(67)) {
            case 0: return lot.nextInt(4) > 0 && isSmall ? null
                : call("person", some(1, 5), aThing(), aThing(), some(0, 999));
            case 1: case 2: case 3: return call("personOf", p(), some(0, 6));
            case 4: case 5: return call("change", p(), some(1, 2), aThing());
            case 6: return call("change", p(), 3, some(0, 999));
            case 7: return call("remake", p(), some(1, 5));
            case 8: case 9: return call("meets", p(), p(), lot.nextInt(3) > 0);
            case 10: return call("worth", some(0, 7), some(0, 99));
            case 11: return call("jar", some(0, 7), some(0, 9));
            case 12: return call("fee", some(0, lot.nextBoolean() ? 5 : 50));
            case 13: return call("thing", some(0, 7), some(0, 3));
            case 14: return call("state", some(0, 3));
            case 15: return tellRules();
            case 16: case 17: return stir();
            case 18: return call("feed", lot.nextLong(), some(1, 8));
            case 19: return call("rules");
            case 20: return call("cans", some(-1, 59));
            case 21: return call("make", p(), lot.nextBoolean() ? 9 : p());
            case 22: case 23: return call("back");
            case 24: return isHeavy ? null : call("fewest");
            case 25: return isHeavy ? null : call("ith", some(0, 5));
            case 26: return isHeavy ? null : call("ways", some(0, 6));
            case 27: return isHeavy ? null : call("most", some(0, 6));
            case 28: return isHeavy ? null : call("cheapest", some(0, 6));
            case 29: return isHeavy ? null : call("cheaply", some(0, 6), some(0, 5));
            case 30: return isHeavy ? null : call("bars");
            case 31: return isHeavy ? null : call("jars");
            case 32: return isHeavy ? null : call("feeFor", some(1, 6));
            case 33: return call("rings", some(2, 6));
            case 34: return call("ring", some(2, 6), some(0, 5));
            case 35: return call("comes", p(), some(0, 4));
            case 36: return call("dearest", p(), some(0, 4));
            case 37: return isHeavy ? null : call("game", some(1, 6));
            case 38: return isHeavy ? null : call("play", some(1, 6));
            case 39: case 40: return tellReport();
            case 41: return lot.nextInt(5) > 0 ? null : call("forget");
            case 42: return call("span", some(0, 2));
            case 43: return call("liar");
            case 44: return call("seed", lot.nextInt());
            case 45: return call("draw");
            case 46: return call("often", some(1, 60));
            case 47: return isHeavy ? null : call("prove");
            case 48: return call("row", some(0, 3), some(0, 2));
            case 49: return call("alterRow", some(0, 3), some(0, 2), lot.nextInt(70));
            case 50: return call("judge");
            case 51: return call("sheet", some(0, 3), some(-1, 4), some(0, 40));
            case 52: return layChanges();
            case 53: return call("write", some(0, 3), some(0, 20), lot.nextBoolean() ? lot.nextInt(60) : lot.nextInt());
            case 54: return call("item", some(0, 3), some(0, 4), some(0, 20));
            case 55: return call("makeAll", some(0, 3), some(0, 20), some(0, 20));
            case 56: return call("wouldCost", some(0, 3), some(0, 20), some(0, 20));
            case 57: return call("shelf", some(0, 3), lot.nextBoolean() ? 0 : some(0, 2), p());
            case 58: return call("taken", some(0, 3), lot.nextBoolean() ? some(0, 5) : some(10, 14));
            case 59: return act();
            case 60: return call("many", some(0, 6));
            case 61: case 62: return stir();
            case 63: return isHeavy ? null : whoBars();
            default: return lot.nextInt(9) == 0 ? call("keep") : call("again");
        }
    }

    /** Makes people lack something again, so that there goes on to be something to ask about. */
    private String stir() throws Exception {
        String wrong = null;
        for (int p = 0; p < model.w.people.size() && wrong == null; p++) {
            int has = thing();
            int needs = lot.nextInt(8) == 0 ? has : (has + 1 + lot.nextInt(things - 1)) % things;
            wrong = call("change", p, 1, has);
            wrong = wrong != null ? wrong : call("change", p, 2, needs);
            if (wrong == null && lot.nextInt(3) == 0) {
                wrong = call("change", p, 3, lot.nextInt(400));
            }
        }
        return wrong != null ? wrong : call("jar", thing(), 1 + lot.nextInt(2));
    }

    /** Prices that hang on how many are WHOLE, with one who is: those must not count whom bars() leaves out. */
    private String whoBars() throws Exception {
        String wrong = stir();
        int people = model.w.people.size();
        if (wrong != null || people == 0 || said.size() > 480) {
            return wrong;
        }
        int p = lot.nextInt(people);
        wrong = call("change", p, 1, model.w.people.get(p).needs);
        String rule = "person if whole " + "<=>".charAt(lot.nextInt(3)) + " " + lot.nextInt(3) + " more 99;";
        wrong = wrong != null ? wrong : tell(rule);
        return wrong != null ? wrong : call("bars");
    }

    private String act() throws Exception {
        String wrong = call("act", some(0, 3), some(0, 3), lot.nextBoolean() ? lot.nextInt() : lot.nextInt(100));
        for (int i = 0; i <= model.trace.size() && wrong == null; i++) {
            wrong = call("trace", i);
        }
        return wrong;
    }

    private String layChanges() throws Exception {
        String wrong = call("sheet", 0, 0, 8);
        Model.World run = model.w.copy();
        for (int i = 0; i < 8 && wrong == null; i++) {
            List<Integer> cans = run.cans();
            int c = cans.isEmpty() || lot.nextInt(8) == 0 ? lot.nextInt(256) : cans.get(lot.nextInt(cans.size()));
            if (run.canBe((byte) c)) {
                run.make((byte) c);
            }
            wrong = call("write", 0, i, c);
        }
        return wrong != null ? wrong : call(lot.nextInt(3) > 0 ? "wouldCost" : "makeAll", 0, some(0, 1), some(0, 8));
    }

    private String tellReport() throws Exception {
        int given = some(0, 99);
        int got = some(0, 99);
        int asked = lot.nextInt(6) == 0 ? some(0, 999) : 2 * Math.max(0, got - given) + 7;
        return call("report", given, got, asked);
    }

    private String tellRules() throws Exception {
        StringBuilder text = new StringBuilder();
        int rules = lot.nextInt(12) == 0 ? 9 : 1 + lot.nextInt(4);
        for (int k = 0; k < rules; k++) {
            text.append(Model.KINDS[rules > 8 ? 1 : lot.nextInt(6)]).append(' ');
            if (rules < 9 && lot.nextInt(3) > 0) {
                text.append("if ").append(cond(lot.nextInt(20) == 0 ? 5 : 3)).append(' ');
            }
            int deed = lot.nextInt(5);
            text.append(deed == 0 ? "free" : (deed < 3 ? "more " : "less") + lot.nextInt(101)).append(';');
        }
        for (int k = lot.nextInt(5) - 3; k > 0; k--) {
            int at = lot.nextInt(text.length() + 1);
            String word = WORDS[lot.nextInt(WORDS.length)];
            text.replace(at, Math.min(text.length(), at + lot.nextInt(4)), word);
        }
        return tell(text.toString());
    }

    private String tell(String text) throws Exception {
        String wrong = null;
        int i = 0;
        while (i < text.length() && wrong == null && said.size() < 500) {
            long eight = 0;
            int n = Math.min(8, text.length() - i);
            for (int k = 0; k < n; k++) {
                eight |= (long) text.charAt(i + k) << 8 * k;
            }
            wrong = call("feed", eight, n);
            i += n;
        }
        return wrong != null ? wrong : call("rules");
    }

    private String cond(int deep) {
        int way = lot.nextInt(deep > 0 ? 7 : 3);
        String gap = lot.nextInt(3) == 0 ? "" : " ";
        switch (way) {
            case 3: return "not" + gap + "(" + gap + cond(deep - 1) + gap + ")";
            case 4: return cond(deep - 1) + " and " + cond(deep - 1);
            case 5: return cond(deep - 1) + " or " + cond(deep - 1);
            case 6: return "(" + cond(deep - 1) + ")";
            default: return (lot.nextInt(5) == 0 ? "not not not " : "") + value() + gap + "<=>".charAt(lot.nextInt(3))
                + gap + value();
        }
    }

    private String value() {
        int way = lot.nextInt(9);
        return way < 5 ? new String[] {"has", "need", "coins", "whole", "number"}[way] : "" + lot.nextInt(way < 8 ? 7 : 999);
    }

    /** Says nothing more behind the 512th call: what later ones answer is free. */
    private String call(String name, Object... args) throws Exception {
        if (said.size() >= 512) {
            return null;
        }
        Class<?>[] types = new Class<?>[args.length];
        for (int i = 0; i < args.length; i++) {
            types[i] = args[i] instanceof Boolean ? boolean.class : args[i] instanceof Long ? long.class : int.class;
        }
        Method mine = HadForVoice.class.getMethod(name, types);
        Method its = Model.class.getDeclaredMethod(name, types);
        String told = name + Arrays.toString(args);
        try {
            int due = (int) its.invoke(model, args);
            int got = (int) mine.invoke(real, args);
            said.add(told + " = " + due);
            return got == due ? null : String.join("\n", said) + "\nanswered " + got;
        } catch (InvocationTargetException e) {
            e.getCause().printStackTrace();
            return String.join("\n", said) + "\n" + told + " threw " + e.getCause();
        }
    }
}
