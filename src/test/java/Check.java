/** Counts answers that are not as due, and tells them with the promise that they break. */
final class Check {
    static final int MIN = Integer.MIN_VALUE;
    static final int MAX = Integer.MAX_VALUE;

    /** A new object in the state that a call is asked in; none is used for more than 512 calls. */
    interface Made {
        HadForVoice made();
    }

    /** A call with one number left open. */
    interface Open {
        int of(HadForVoice x, int v);
    }

    private int asked;
    private int wrong;

    void due(int promise, String call, long got, long want) {
        asked++;
        if (got != want) {
            wrong++;
            System.out.println("promise " + promise + ": " + call + " answered " + got + ", due is " + want);
        }
    }

    /** From least to most v is taken, and one step (and the farthest) to either side of that it is refused. */
    void range(int promise, String call, int least, int most, int refusal, Made made, Open open) {
        for (int v = least; v <= most; v++) {
            int got = open.of(made.made(), v);
            due(promise, call + " with v = " + v + " is refused (1) or not (0):", got == refusal ? 1 : 0, 0);
        }
        for (int v : new int[] {least - 1, most + 1, MIN, MAX}) {
            due(promise, call + " with v = " + v, open.of(made.made(), v), refusal);
        }
    }

    void end() {
        System.out.println(wrong == 0 ? asked + " answers as due" : wrong + " of " + asked + " answers not as due");
        if (wrong != 0) {
            System.exit(1);
        }
    }

    /** Feeds a text to THE TAPE: what the last feed() answered. */
    static int feed(HadForVoice x, String text) {
        int size = 0;
        for (int i = 0; i < text.length(); i += 8) {
            int n = Math.min(8, text.length() - i);
            long eight = 0;
            for (int k = 0; k < n; k++) {
                eight |= (long) text.charAt(i + k) << 8 * k;
            }
            size = x.feed(eight, n);
        }
        return size;
    }

    static int rules(HadForVoice x, String text) {
        feed(x, text);
        return x.rules();
    }

    /** THINGS 0 to 3 worth 10, 20, 30, 40; no FEE, nothing in JARS, nobody. */
    static HadForVoice things() {
        HadForVoice x = new HadForVoice();
        for (int t = 0; t < 4; t++) {
            x.worth(t, 10 * (t + 1));
        }
        return x;
    }

    /** So many maids without COINS, all of whom are WHOLE. */
    static HadForVoice whole(int many) {
        HadForVoice x = new HadForVoice();
        for (int p = 0; p < many; p++) {
            x.person(1, 0, 0, 0);
        }
        return x;
    }

    /** So many maids who have a 0 and need a 1; nobody MEETS anybody, so that only the witch can help. */
    static HadForVoice lacking(int many, int inJar) {
        HadForVoice x = new HadForVoice();
        x.jar(1, inJar);
        for (int p = 0; p < many; p++) {
            x.person(1, 0, 1, 0);
        }
        return x;
    }

    /** Three maids with no COINS who have 0, 1, 2 and need 1, 2, 0, and all MEET. */
    static HadForVoice circle() {
        HadForVoice x = things();
        for (int p = 0; p < 3; p++) {
            x.person(1, p, (p + 1) % 3, 0);
        }
        x.meets(0, 1, true);
        x.meets(1, 2, true);
        x.meets(0, 2, true);
        return x;
    }
}
