import java.util.NoSuchElementException;
import java.util.Random;

/** Long random runs: each answer of BentWords must be that of the model. */
public final class ModelTest {
    private static final int RUNS = 1500;
    /** Nothing is promised behind 512 calls, and up to 62 of them belong together. */
    private static final int CALLS = 512 - 62;
    private static final int FEW = 20;

    private static Random random;
    private static BentWords x;
    private static Model y;
    private static int calls;

    public static void main(String[] args) {
        int runs = args.length > 0 ? Integer.parseInt(args[0]) : RUNS;
        for (int run = 0; run < runs && Check.wrong < FEW; run++) {
            random = new Random(run);
            x = new BentWords();
            y = new Model();
            calls = 0;
            boolean early = random.nextInt(8) != 0;
            if (early) {
                lexicon();
            }
            int before = Check.wrong;
            while (calls < CALLS && Check.wrong == before) {
                one();
            }
            if (Check.wrong != before) {
                System.out.println("in run " + run + " at call " + calls);
            }
        }
        Check.finish();
    }

    private static void same(String call, long got, long want) {
        calls++;
        Check.due(call, got, want);
    }

    private static int below(int n) {
        return random.nextInt(n);
    }

    /** Mostly 0 .. n - 1, now and then beside that. */
    private static int near(int n) {
        if (below(14) != 0) {
            return below(n);
        }
        int[] odd = {-1, n, -2, n + 1, Integer.MAX_VALUE, Integer.MIN_VALUE, 255};
        return odd[below(odd.length)];
    }

    private static int nounCount() {
        return Math.max(1, y.count(0));
    }

    private static int messageCount() {
        return Math.max(1, y.rule(1));
    }

    private static int scriptCount() {
        return Math.max(1, y.count(1));
    }

    // ---- texts

    private static final String[] SHORT = {"a", "b", "ab", "abc", "bca", "dog", "cats", "abcdefgh"};

    private static String word() {
        return SHORT[below(SHORT.length)];
    }

    private static String gap() {
        return below(4) == 0 ? "  " : " ";
    }

    private static String item() {
        int a = below(3);
        int b = (a + 1 + below(2)) % 3;
        switch (below(9)) {
            case 0:
            case 1:
                return "#" + a + " " + below(4);
            case 2:
            case 3:
                return "@" + a + " " + below(4);
            case 4:
                return "%" + a + " " + below(4);
            case 5:
                return "$" + a;
            case 6:
                return below(2) == 0 ? "=" + a + " " + b : word();
            case 7:
                return below(2) == 0 ? "!" + a + " " + b : word();
            default:
                return word();
        }
    }

    private static String lexiconText() {
        StringBuilder s = new StringBuilder();
        int nouns = 1 + below(6);
        String[] names = {"a", "dog", "cats", "ox", "abcdefgh", "ab", "g"};
        for (int i = 0; i < nouns + (below(40) == 0 ? 1 : 0); i++) {
            s.append(i == 0 ? "" : ";").append("noun ").append(names[i % 7]).append(" ").append(below(3));
        }
        int messages = below(5);
        for (int i = 0; i < messages; i++) {
            s.append(";message ").append((char) ('m' + i));
            for (int k = 1 + below(below(3) == 0 ? 8 : 3); k > 0; k--) {
                s.append(" ").append(item());
            }
        }
        boolean[] done = new boolean[6 * 8 + 48];
        for (int i = below(16); i > 0; i--) {
            int form = below(nouns * 8);
            int bound = below(48);
            boolean isForm = below(2) == 0;
            int place = isForm ? form : 48 + bound;
            if (done[place] && below(30) != 0) {
                continue;
            }
            done[place] = true;
            String clause = isForm
                ? "form " + names[form / 8] + " " + form / 2 % 4 + " " + form % 2 + gap() + word()
                : (bound < 24 ? "article " : "pronoun ") + bound % 4 + " " + bound / 4 % 2 + " "
                    + bound / 8 % 3 + " " + word();
            s.append(gap().substring(1)).append(";").append(clause);
        }
        return s.length() > 480 ? s.substring(0, s.lastIndexOf(";", 470)) : s.toString();
    }

    private static String scriptText() {
        StringBuilder s = new StringBuilder();
        int steps = 1 + below(below(6) == 0 ? 14 : 5);
        int noun = below(12) == 0 ? 10 : nounCount();
        for (int i = 0; i < steps; i++) {
            s.append(i == 0 ? "" : ";");
            switch (below(6)) {
                case 0:
                case 1:
                    s.append("fill ").append(below(3)).append(" ").append(below(noun)).append(" ")
                        .append(below(below(4) == 0 ? 100 : 3));
                    break;
                case 2:
                    s.append("empty ").append(below(3));
                    break;
                case 3:
                    s.append("strict ").append(below(2));
                    break;
                case 4:
                    s.append("form ").append(below(noun)).append(" ").append(below(4)).append(" ")
                        .append(below(2)).append(" ").append(word());
                    break;
                default:
                    s.append("drop ").append(below(noun)).append(" ").append(below(4)).append(" ")
                        .append(below(2));
                    break;
            }
        }
        return s.toString();
    }

    /** The text with a few signs changed, put in or taken out. */
    private static String bent(String text) {
        StringBuilder s = new StringBuilder(text);
        String signs = "abz019;; #@%$=!?A" + (char) 233;
        for (int i = 1 + below(2); i > 0 && s.length() > 0; i--) {
            int at = below(s.length());
            char sign = signs.charAt(below(signs.length()));
            switch (below(4)) {
                case 0:
                    s.setCharAt(at, sign);
                    break;
                case 1:
                    s.insert(at, sign);
                    break;
                case 2:
                    s.deleteCharAt(at);
                    break;
                default:
                    s.setLength(at);
                    break;
            }
        }
        return s.toString();
    }

    private static void put(String text) {
        same("end(0)", x.end(0) ? 1 : 0, y.end(0) ? 1 : 0);
        for (int i = 0; i < text.length(); i += 20) {
            int[] n = new int[5];
            for (int k = 0; k < 20 && i + k < text.length(); k++) {
                n[k / 4] |= (text.charAt(i + k) & 255) << (24 - 8 * (k % 4));
            }
            same("feed of " + text, x.feed(n[0], n[1], n[2], n[3], n[4]),
                y.feed(n[0], n[1], n[2], n[3], n[4]));
        }
    }

    private static void lexicon() {
        String text = lexiconText();
        put(below(5) == 0 ? bent(text) : text);
        same("fault(0) of " + text, x.fault(0), y.fault(0));
        same("text(0) of " + text, x.text(0), y.text(0));
    }

    private static void script() {
        String text = scriptText();
        put(below(4) == 0 ? bent(text) : text);
        same("fault(1) of " + text, x.fault(1), y.fault(1));
        same("text(1) of " + text, x.text(1), y.text(1));
    }

    /** Puts what a message tells now on the tape, so that guesses have ways. */
    private static void putLine() {
        int m = below(messageCount());
        StringBuilder s = new StringBuilder();
        for (int i = 0; i < 150 && y.told(m, i) != -1; i++) {
            s.append((char) y.told(m, i));
        }
        put(s.toString());
        for (int what = -1; what < 6; what++) {
            same("guess(" + m + ", " + what + ") of " + s, x.guess(m, what), y.guess(m, what));
        }
    }

    private static void putForm() {
        int noun = below(nounCount());
        int kase = below(4);
        int number = below(2);
        StringBuilder s = new StringBuilder();
        for (int i = 0; i < 8 && y.form(noun, kase, number, i) != -1; i++) {
            s.append((char) y.form(noun, kase, number, i));
        }
        put(below(3) == 0 ? " " + s + " " : s.toString());
        same("canBe of " + s, x.canBe(noun), y.canBe(noun));
    }

    // ---- one call, or a few that belong together

    private static void one() {
        int sort = below(100);
        if (sort < 1) {
            lexicon();
        } else if (sort < 3) {
            script();
        } else if (sort < 6) {
            putLine();
        } else if (sort < 8) {
            putForm();
        } else if (sort < 11) {
            put(below(4) == 0 ? bent(word()) : word());
        } else if (sort < 45) {
            act();
        } else {
            ask();
        }
    }

    private static void act() {
        int a = near(3);
        int noun = near(nounCount());
        int count = below(3) == 0 ? near(100) : below(3);
        int kase = near(4);
        int number = near(2);
        int script = near(scriptCount());
        switch (below(15)) {
            case 0, 1, 2, 3 ->
                same("fill(" + a + ", " + noun + ", " + count + ")", x.fill(a, noun, count),
                    y.fill(a, noun, count));
            case 4 -> same("empty(" + a + ")", x.empty(a), y.empty(a));
            case 5 -> same("strict(" + number + ")", x.strict(number), y.strict(number));
            case 6, 7 -> {
                put(below(6) == 0 ? bent(word()) : word());
                same("tell(" + noun + ", " + kase + ", " + number + ")", x.tell(noun, kase, number),
                    y.tell(noun, kase, number));
            }
            case 8 -> same("tell", x.tell(noun, kase, number), y.tell(noun, kase, number));
            case 9 -> same("drop(" + noun + ", " + kase + ", " + number + ")",
                x.drop(noun, kase, number), y.drop(noun, kase, number));
            case 10 -> {
                int n = below(4) == 0 ? near(42) : below(5);
                long seed = random.nextLong();
                same("ways(" + n + ", " + seed + ")", x.ways(n, seed), y.ways(n, seed));
            }
            case 11 -> {
                for (int i = below(below(5) == 0 ? 45 : 4); i >= 0; i--) {
                    same("undo()", x.undo(), y.undo());
                }
            }
            case 12 -> same("perform(" + script + ")", x.perform(script), y.perform(script));
            case 13 -> same("image()", x.image(), y.image());
            default -> {
                if (below(3) == 0) {
                    same("back()", x.back(), y.back());
                }
            }
        }
    }

    private static void ask() {
        int m = near(messageCount());
        int noun = near(nounCount());
        int kase = near(4);
        int number = near(2);
        int hole = near(3);
        int script = near(scriptCount());
        int what;
        int i;
        switch (below(25)) {
            case 0 -> same("rule(" + (what = near(7)) + ")", x.rule(what), y.rule(what));
            case 1 -> same("noun(" + noun + ", " + (what = near(3)) + ")", noun(true, noun, what),
                noun(false, noun, what));
            case 2 -> {
                i = below(10) - 1;
                same("form(" + noun + ", " + kase + ", " + number + ", " + i + ")",
                    x.form(noun, kase, number, i), y.form(noun, kase, number, i));
            }
            case 3 -> same("byDefault(" + noun + ", " + kase + ", " + number + ")",
                x.byDefault(noun, kase, number), y.byDefault(noun, kase, number));
            case 4 -> {
                boolean pronoun = below(2) == 0;
                int kind = near(3);
                i = below(10) - 1;
                same("word(" + pronoun + ", " + kase + ", " + number + ", " + kind + ", " + i + ")",
                    x.word(pronoun, kase, number, kind, i), y.word(pronoun, kase, number, kind, i));
            }
            case 5 -> same("hole(" + hole + ", " + (what = near(3)) + ")", x.hole(hole, what),
                y.hole(hole, what));
            case 6 -> same("message(" + m + ", " + (what = near(4)) + ")", x.message(m, what),
                y.message(m, what));
            case 7 -> {
                for (i = -1; i < 60 && (i < 1 || y.told(m, i - 1) != -1); i++) {
                    same("told(" + m + ", " + i + ")", x.told(m, i), y.told(m, i));
                }
            }
            case 8, 9 -> same("why(" + m + ", " + (what = near(3)) + ")", x.why(m, what),
                y.why(m, what));
            case 10, 11 -> {
                i = below(6) - 1;
                what = near(4);
                same("missing(" + m + ", " + i + ", " + what + ")", x.missing(m, i, what),
                    y.missing(m, i, what));
            }
            case 12 -> same("bare(" + noun + ")", x.bare(noun), y.bare(noun));
            case 13 -> same("fits(" + m + ", " + hole + ")", x.fits(m, hole), y.fits(m, hole));
            case 14 -> same("needs(" + m + ")", x.needs(m), y.needs(m));
            case 15 -> same("alike(" + noun + ")", x.alike(noun), y.alike(noun));
            case 16 -> same("canBe(" + noun + ")", x.canBe(noun), y.canBe(noun));
            case 17 -> same("guess(" + m + ", " + (what = near(6)) + ")", x.guess(m, what),
                y.guess(m, what));
            case 18 -> same("status(" + (what = near(3)) + ")", x.status(what), y.status(what));
            case 19, 20 -> {
                i = near(below(2) == 0 ? 61 : 3);
                what = near(3);
                same("log(" + i + ", " + what + ")", x.log(i, what), y.log(i, what));
            }
            case 21 -> {
                int count = near(3);
                same("would(" + hole + ", " + noun + ", " + count + ")", x.would(hole, noun, count),
                    y.would(hole, noun, count));
            }
            case 22 -> {
                i = near(5);
                what = near(5);
                same("step(" + script + ", " + i + ", " + what + ")", x.step(script, i, what),
                    y.step(script, i, what));
            }
            case 23 -> same("run(" + script + ", " + (what = near(2)) + ")", x.run(script, what),
                y.run(script, what));
            default -> {
                what = near(11);
                same("most(" + what + ")", x.most(what), y.most(what));
                same("count(" + (what = near(5)) + ")", x.count(what), y.count(what));
            }
        }
    }

    /** What noun answers, or HIDDEN for its exception. */
    private static int noun(boolean real, int noun, int what) {
        try {
            return real ? x.noun(noun, what) : y.noun(noun, what);
        } catch (NoSuchElementException e) {
            return BentWords.HIDDEN;
        }
    }
}
