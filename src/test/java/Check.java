/** What the tests share: counting wrong answers, and a BentWords that is fed texts. */
final class Check {
    static int asked = 0;
    static int wrong = 0;
    /** The test that runs now, where tests have names. */
    static String test = "";

    /** Beside what is promised anywhere, and such that lose their high bits in a byte or a short. */
    private static final int[] FAR = {Integer.MIN_VALUE, Integer.MAX_VALUE, Integer.MIN_VALUE + 1,
        Integer.MAX_VALUE - 1, 256, 65536, -65536, -256, 1 << 30};

    private Check() {
    }

    /** What is not low .. high: just beside it, and far away. */
    static int[] beside(int low, int high) {
        int[] all = new int[FAR.length + 2];
        all[0] = low - 1;
        all[1] = high + 1;
        int found = 2;
        for (int far : FAR) {
            if (far < low || far > high) {
                all[found] = far;
                found++;
            }
        }
        return java.util.Arrays.copyOf(all, found);
    }

    private static String named(String call) {
        return test.isEmpty() ? call : test + ": " + call;
    }

    static void due(String call, long got, long want) {
        asked++;
        if (got != want) {
            wrong++;
            System.out.println(named(call) + " answered " + got + ", due is " + want);
        }
    }

    static void due(String call, boolean got, boolean want) {
        due(call, got ? 1 : 0, want ? 1 : 0);
    }

    static void due(String call, String got, String want) {
        asked++;
        if (!got.equals(want)) {
            wrong++;
            System.out.println(named(call) + " answered '" + got + "', due is '" + want + "'");
        }
    }

    static void finish() {
        System.out.println(asked + " answers, " + wrong + " wrong");
        if (wrong != 0 || asked == 0) {
            System.exit(1);
        }
    }

    /** Puts the text on the tape instead of what is there. */
    static BentWords put(BentWords x, String text) {
        due("end(0)", x.end(0), true);
        for (int i = 0; i < text.length(); i += 20) {
            int[] n = new int[5];
            for (int k = 0; k < 20 && i + k < text.length(); k++) {
                n[k / 4] |= (text.charAt(i + k) & 255) << (24 - 8 * (k % 4));
            }
            int has = x.feed(n[0], n[1], n[2], n[3], n[4]);
            due("feed", has, Math.min(text.length(), i + 20));
        }
        return x;
    }

    /** A new object with this lexicon. */
    static BentWords with(String lexicon) {
        BentWords x = put(new BentWords(), lexicon);
        int nouns = x.text(0);
        due("text(0) of " + lexicon, nouns > 0, true);
        return x;
    }

    /** The message as it is told; "-": it can't be. */
    static String line(BentWords x, int message) {
        int bytes = x.message(message, 3);
        if (bytes < 0) {
            due("told(0) of what can't be", x.told(message, 0), -1);
            return "-";
        }
        StringBuilder s = new StringBuilder();
        for (int i = 0; i < bytes; i++) {
            s.append((char) x.told(message, i));
        }
        due("told behind the end", x.told(message, bytes), -1);
        due("told(-1)", x.told(message, -1), -1);
        return s.toString();
    }

    /** WHY as item, hole, what; "-": it can be told. */
    static String why(BentWords x, int message) {
        if (x.why(message, 0) == -1) {
            return "-";
        }
        return x.why(message, 0) + " " + x.why(message, 1) + " " + x.why(message, 2);
    }

    static String form(BentWords x, int noun, int kase, int number) {
        StringBuilder s = new StringBuilder();
        int letters = x.form(noun, kase, number, -1);
        for (int i = 0; i < letters; i++) {
            s.append((char) x.form(noun, kase, number, i));
        }
        due("form behind the end", x.form(noun, kase, number, letters), -1);
        return s.toString();
    }

    static String bound(BentWords x, boolean pronoun, int kase, int number, int kind) {
        StringBuilder s = new StringBuilder();
        int letters = x.word(pronoun, kase, number, kind, -1);
        for (int i = 0; i < letters; i++) {
            s.append((char) x.word(pronoun, kase, number, kind, i));
        }
        due("word behind the end", x.word(pronoun, kase, number, kind, letters), -1);
        return s.toString();
    }

    static String row(BentWords x, int i) {
        return x.log(i, 0) + " " + x.log(i, 1) + " " + x.log(i, 2);
    }

    static String status(BentWords x) {
        return x.status(0) + " " + x.status(1) + " " + x.status(2);
    }

    static boolean nounThrows(BentWords x, int noun, int what) {
        try {
            x.noun(noun, what);
            return false;
        } catch (java.util.NoSuchElementException e) {
            return true;
        }
    }
}
