/** Counts answers that are not as due, and tells them with the promise that they break. */
final class Check {
    private int asked;
    private int wrong;

    void due(int promise, String call, long got, long want) {
        asked++;
        if (got != want) {
            wrong++;
            System.out.println("promise " + promise + ": " + call + " answered " + got + ", due is " + want);
        }
    }

    void end() {
        System.out.println(wrong == 0 ? asked + " answers as due" : wrong + " of " + asked + " answers not as due");
        if (wrong != 0) {
            System.exit(1);
        }
    }

    /** Feeds a text to THE TAPE: what the last feed() answered. */
    static int feed(HadForVoice x, String text) {
        int size = 0;
        for (int i = 0; i < text.length(); i += 8) {
            int n = Math.min(8, text.length() - i);
            long eight = 0;
            for (int k = 0; k < n; k++) {
                eight |= (long) text.charAt(i + k) << 8 * k;
            }
            size = x.feed(eight, n);
        }
        return size;
    }

    static int rules(HadForVoice x, String text) {
        feed(x, text);
        return x.rules();
    }

    /** THINGS 0 to 3 worth 10, 20, 30, 40; no FEE, nothing in JARS, nobody. */
    static HadForVoice things() {
        HadForVoice x = new HadForVoice();
        for (int t = 0; t < 4; t++) {
            x.worth(t, 10 * (t + 1));
        }
        return x;
    }

    /** Three maids with no COINS who have 0, 1, 2 and need 1, 2, 0, and all MEET. */
    static HadForVoice circle() {
        HadForVoice x = things();
        for (int p = 0; p < 3; p++) {
            x.person(1, p, (p + 1) % 3, 0);
        }
        x.meets(0, 1, true);
        x.meets(1, 2, true);
        x.meets(0, 2, true);
        return x;
    }
}
