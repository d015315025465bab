/** Promises 1 to 5 and 32: the tape, faults, lexicons and scripts as texts. */
public final class TextsTest {
    private static final int N = BentWords.NONE;
    private static final int H = BentWords.HIDDEN;

    public static void main(String[] args) {
        aNewObject();
        feed();
        end();
        faultsOfLexicons();
        faultsOfDoubles();
        faultsOfLimits();
        faultsOfItems();
        faultsOfScripts();
        texts();
        aNewLexicon();
        steps();
        Check.finish();
    }

    private static void lexicon(String marked) {
        Faults.lexicon(marked);
    }

    private static void script(String marked) {
        Faults.script(marked);
    }

    private static void aNewObject() {
        BentWords x = new BentWords();
        for (int what = 0; what < 5; what++) {
            Check.due("count(" + what + ")", x.count(what), 0);
        }
        for (int what = 0; what < 7; what++) {
            Check.due("rule(" + what + ")", x.rule(what), N);
        }
        Check.due("status", Check.status(x), "0 0 0");
        Check.due("noun throws", Check.nounThrows(x, 0, 0), true);
        Check.due("form", x.form(0, 0, 0, N), N);
        Check.due("byDefault", x.byDefault(0, 0, 0), N);
        Check.due("word", x.word(false, 0, 0, 0, N), N);
        Check.due("word", x.word(true, 0, 0, 0, N), N);
        Check.due("hole", x.hole(0, 0), N);
        Check.due("message", x.message(0, 0), N);
        Check.due("told", x.told(0, 0), N);
        Check.due("why", x.why(0, 0), N);
        Check.due("missing", x.missing(0, N, 0), N);
        Check.due("bare", x.bare(0), N);
        Check.due("fits", x.fits(0, 0), N);
        Check.due("needs", x.needs(0), N);
        Check.due("alike", x.alike(0), N);
        Check.due("canBe", x.canBe(0), N);
        Check.due("guess", x.guess(0, N), N);
        Check.due("ways", x.ways(1, 1), N);
        Check.due("undo", x.undo(), N);
        Check.due("log", x.log(0, 0), H);
        Check.due("would", x.would(0, 0, 1), N);
        Check.due("step", x.step(0, 0, 0), H);
        Check.due("run", x.run(0, 0), H);
        Check.due("perform", x.perform(0), N);
        Check.due("most", x.most(0), H);
        Check.due("image", x.image(), N);
        Check.due("back", x.back(), N);
        Check.due("status, as no act was refused", Check.status(x), "0 0 0");
    }

    private static void feed() {
        BentWords x = new BentWords();
        Check.due("feed of nothing", x.feed(0, 0, 0, 0, 0), 0);
        Check.due("feed leaves 0 out", x.feed(0x61000062, 0, 0x00630000, -1, 0x00000064), 8);
        for (int i = 0; i < 23; i++) {
            Check.due("feed", x.feed(0x20202020, 0x20202020, 0x20202020, 0x20202020, 0x20202020),
                28 + 20 * i);
        }
        Check.due("feed to 488", x.feed(0x20202020, 0x20202020, 0x20202020, 0x20202020, 0x20202020), N);
        Check.due("it stays", x.count(2), 468);
        Check.due("feed to 481", x.feed(0x20202020, 0x20202020, 0x20202020, 0, 0x20), N);
        Check.due("feed to 480", x.feed(0x20202020, 0x20202020, 0, 0, 0x20202020), 480);
        Check.due("feed to 481", x.feed(0, 0, 0, 0, 1), N);
        Check.due("feed of nothing when full", x.feed(0, 0, 0, 0, 0), 480);
        // the highest byte first, a ahead of b: the only order that spells a lexicon
        BentWords y = new BentWords();
        y.feed(0x6e6f756e, 0x20640030, 0, 0, 0);
        Check.due("text", y.text(0), 1);
        Check.due("its name", Check.form(y, 0, 0, 0), "d");
    }

    private static void end() {
        BentWords x = Check.put(new BentWords(), "noun dog 0;noun cat");
        Check.due("end(-1)", x.end(-1), false);
        Check.due("end(20)", x.end(20), false);
        Check.due("it stays", x.count(2), 19);
        Check.due("end(19)", x.end(19), true);
        Check.due("it stays", x.count(2), 19);
        Check.due("fault", x.fault(0), 19);
        Check.due("end(10)", x.end(10), true);
        Check.due("count(2)", x.count(2), 10);
        Check.due("fault", x.fault(0), N);
        Check.due("end(11)", x.end(11), false);
        Check.due("end(0)", x.end(0), true);
        Check.due("end(0)", x.end(0), true);
        Check.due("end(min)", x.end(Integer.MIN_VALUE), false);
    }

    private static void faultsOfLexicons() {
        for (int sort : new int[] {-1, 2, 7, Integer.MIN_VALUE}) {
            Check.due("no such sort", new BentWords().fault(sort), -2);
            Check.due("no such sort", new BentWords().text(sort), N);
        }
        lexicon("noun dog 0");
        lexicon("  noun  dog  0  ");
        lexicon("noun dog0;noun cat1");
        lexicon("noun abcdefgh 2");
        lexicon("noun noun 0;form noun 0 0 form;message message message noun");
        lexicon("|");
        lexicon("   |");
        lexicon("noun|");
        lexicon("noun dog|");
        lexicon("noun dog  |");
        lexicon("noun dog 0;|");
        lexicon("noun dog 0;  |");
        lexicon("|;noun dog 0");
        lexicon("noun dog 0;|;noun cat 0");
        lexicon("|Noun dog 0");
        lexicon("|verb dog 0");
        lexicon("|nou dog 0");
        lexicon("|nouns dog 0");
        lexicon("|fill 0 0 0");
        lexicon("noun dog 0;|1");
        lexicon("noun |0 0");
        lexicon("noun |Dog 0");
        lexicon("noun do|G 0");
        lexicon("noun dog |3");
        lexicon("noun dog |00");
        lexicon("noun dog |10");
        lexicon("noun dog |-1");
        lexicon("noun dog |cat");
        lexicon("noun dog |;");
        lexicon("noun dog 0 |0");
        lexicon("noun dog 0 |cat");
        lexicon("noun dog 0|x;");
        lexicon("noun dog 0|,noun cat 0");
        lexicon("noun |abcdefghi 0");
        lexicon("|abcdefghi");
        lexicon("noun dog 0|" + (char) 233);
        lexicon("noun dog 0|\t");
    }

    private static void faultsOfDoubles() {
        lexicon("noun dog 0;noun |dog 1");
        lexicon("noun dog 0;noun |dog");
        lexicon("noun dog 0;noun dogs 0");
        lexicon("form |dog 0 0 x;noun dog 0");
        lexicon("noun dog 0;form |cat 0 0 x");
        lexicon("noun dog 0;form dog |4 0 x");
        lexicon("noun dog 0;form dog 3 |2 x");
        lexicon("noun dog 0;form dog 3 1 |4");
        lexicon("noun dog 0;form dog 3 1 |abcdefghi");
        lexicon("noun dog 0;form dog 3 1 abcdefgh");
        lexicon("noun dog 0;form dog |31 x");
        lexicon("noun dog 0;form dog 3 1|");
        lexicon("noun dog 0;form dog 3 1 x |y");
        lexicon("noun dog 0;form dog 0 0 x;form dog 0 1 x;form dog 1 0 x");
        lexicon("noun dog 0;form dog 0 0 x;|form dog 0 0 x");
        lexicon("noun dog 0;form dog 0 0 x; |form dog 0 0 y");
        lexicon("noun dog 0;form dog 0 0 x;|form dog 0 0");
        lexicon("noun dog 0;form dog 0 0 x;|form dog 0 0 7");
        lexicon("noun dog 0;form dog 0 0 x;form dog 0 |3 x");
        lexicon("article 0 0 0 the|");
        lexicon("article 0 0 0 the  |");
        lexicon("message m x|");
        lexicon("article 0 0 0 the;noun dog 0");
        lexicon("article 3 1 2 the;pronoun 3 1 2 it;noun dog 0");
        lexicon("article |4 0 0 the;noun dog 0");
        lexicon("article 0 |2 0 the;noun dog 0");
        lexicon("pronoun 0 0 |3 the;noun dog 0");
        lexicon("pronoun 0 0 0|;noun dog 0");
        lexicon("noun dog 0;article 0 0 0 a;article 0 0 1 a;|article 0 0 0 b");
        lexicon("noun dog 0;article 0 0 0 a;pronoun 0 0 0 a;|pronoun 0 0 0 a");
        lexicon("noun dog 0;pronoun 1 1 1 a;|pronoun 1 1 1");
    }

    private static void faultsOfLimits() {
        String six = "noun a 0;noun b 0;noun c 0;noun d 0;noun e 0;noun f 0";
        lexicon(six);
        lexicon(six + ";|noun g 0");
        lexicon(six + "; |noun a 9");
        lexicon(six + ";|noun");
        lexicon(six + ";|");
        String four = "message a x;message b x;message c x;message d x;";
        lexicon(four + "noun dog 0");
        lexicon(four + "|message e x;noun dog 0");
        lexicon(four + "|message a");
        lexicon(four + "|");
        lexicon("noun a 0;message a x;message b x;message |a x");
        lexicon("noun a 0;message m a b c d e f g h");
        lexicon("noun a 0;message m a b c d e f g h;message n x");
        lexicon("noun a 0;message m a b c d e f g h |i");
        lexicon("noun a 0;message m a b c d e f g h |#0 0");
        lexicon("noun a 0;message m a b c d e f g h |7");
        lexicon("noun a 0;message m =0 1 =0 1 =0 1 =0 1 =0 1 =0 1 =0 1 =0 1");
        lexicon("noun a 0;message m =0 1 =0 1 =0 1 =0 1 =0 1 =0 1 =0 1 =0 1 |$0");
    }

    private static void faultsOfItems() {
        lexicon("noun a 0;message m#0 0@1 1%2 2$0=0 1!1 2x");
        lexicon("noun a 0;message m # 0 3 @ 1 3 % 2 3 $ 2 = 2 0 ! 2 1 abcdefgh ");
        lexicon("noun a 0;message m|");
        lexicon("noun a 0;message m |;");
        lexicon("noun a 0;message|");
        lexicon("noun a 0;message |#0 0");
        lexicon("noun a 0;message |abcdefghi x");
        lexicon("noun a 0;message m |abcdefghi");
        lexicon("noun a 0;message m x |0");
        lexicon("noun a 0;message m #|");
        lexicon("noun a 0;message m #0|");
        lexicon("noun a 0;message m #0 |;");
        lexicon("noun a 0;message m #0 |x");
        lexicon("noun a 0;message m #|00");
        lexicon("noun a 0;message m #|3 0");
        lexicon("noun a 0;message m #2 |4");
        lexicon("noun a 0;message m @|3 0");
        lexicon("noun a 0;message m @0 |4");
        lexicon("noun a 0;message m %|3 0");
        lexicon("noun a 0;message m %0 |4");
        lexicon("noun a 0;message m $|3");
        lexicon("noun a 0;message m $0 |0");
        lexicon("noun a 0;message m $|01");
        lexicon("noun a 0;message m =|3 0");
        lexicon("noun a 0;message m =0 |3");
        lexicon("noun a 0;message m =0 |0");
        lexicon("noun a 0;message m !2  |2");
        lexicon("noun a 0;message m !2 1");
        lexicon("noun a 0;message m !2|");
        lexicon("noun a 0;message m |&0");
        lexicon("noun a 0;message m x|?");
    }

    private static void faultsOfScripts() {
        script("fill 0 0 0");
        script(" fill 2 9 99 ; empty 2;strict 1;form 9 3 1 abcdefgh;drop 9 3 1 ");
        script("fill0 0 00;fill 0 0 07;empty0;strict0;form0 0 0x;drop0 0 0");
        script("|");
        script("  |");
        script("|;");
        script("empty 0;|");
        script("empty 0;|;empty 0");
        script("|noun a 0");
        script("|fil 0 0 0");
        script("|fills 0 0 0");
        script("|abcdefghij");
        script("fill|");
        script("fill |3 0 0");
        script("fill |00 0 0");
        script("fill 0 |10 0");
        script("fill 0 |x 0");
        script("fill 0 0|");
        script("fill 0 0 |100");
        script("fill 0 0 |000");
        script("fill 0 0 0 |0");
        script("fill 0 0 99");
        script("empty |3");
        script("empty 0 |0");
        script("strict |2");
        script("strict |11");
        script("form 0 |4 0 x");
        script("form 0 3 |2 x");
        script("form |10 3 2 x");
        script("form 0 3 1|");
        script("form 0 3 1 |7");
        script("form 0 3 1 |abcdefghi");
        script("form 0 3 1 x;form 0 3 1 x");
        script("drop |a 0 0");
        script("drop 0 |4 0");
        script("drop 0 0 |2");
        script("drop 0 0 0 |x");
        script("drop 0 0|");
        String twelve = "empty 0" + ";empty 0".repeat(11);
        script(twelve);
        script(twelve + "  ");
        script(twelve + "|;empty 0");
        script(twelve + "  |; verb");
        script(twelve + "|;");
        script(twelve + " |x");
    }

    private static void texts() {
        BentWords x = new BentWords();
        for (int i = 0; i < 4; i++) {
            Check.put(x, "strict " + i % 2);
            Check.due("text(1)", x.text(1), i);
            Check.due("the tape", x.count(2), 0);
        }
        Check.put(x, "strict 0");
        Check.due("a fifth script has no fault", x.fault(1), N);
        Check.due("a fifth script", x.text(1), N);
        Check.due("the tape stays", x.count(2), 8);
        Check.due("scripts", x.count(1), 4);
        Check.due("the fourth", x.step(3, 0, 1), 1);
        Check.due("no fifth", x.step(4, 0, 0), H);
        Check.put(x, "noun a 0;noun b 1;noun c 2");
        Check.due("text(0)", x.text(0), 3);
        Check.due("text(0) of nothing", x.text(0), N);
        Check.due("the lexicon stays", x.count(0), 3);
        // a fault that is looked for leaves what stands
        Check.put(x, "noun d 2;form d 0 0 e;verb");
        Check.due("fault", x.fault(0), 22);
        Check.due("text", x.text(0), N);
        Check.due("its name", Check.form(x, 0, 0, 0), "a");
        Check.due("its forms", x.rule(4), 0);
        Check.put(x, "empty 2;verb");
        Check.due("fault", x.fault(1), 8);
        Check.due("the scripts stay", x.step(0, 0, 0), 2);
    }

    private static void aNewLexicon() {
        BentWords x = Check.with("noun dog 0;noun cat 1;form cat 0 0 c;article 0 0 0 the;"
            + "pronoun 0 0 0 he;message m #0 0;message n x");
        Check.put(x, "fill 0 0 1");
        Check.due("text(1)", x.text(1), 0);
        x.fill(0, 1, 2);
        x.strict(1);
        x.fill(5, 0, 0);
        x.image();
        Check.due("log", x.count(3), 2);
        Check.put(x, "noun bee 2;message z #0 1");
        Check.due("text(0)", x.text(0), 1);
        Check.due("nouns", x.rule(0), 1);
        Check.due("messages", x.rule(1), 1);
        Check.due("articles", x.rule(2), 0);
        Check.due("pronouns", x.rule(3), 0);
        Check.due("forms", x.rule(4), 0);
        Check.due("strict", x.rule(5), 0);
        Check.due("hole", x.hole(0, 0), N);
        Check.due("log", x.count(3), 0);
        Check.due("log", x.log(0, 0), H);
        Check.due("undo", x.undo(), N);
        Check.due("back", x.back(), N);
        Check.due("scripts stay", x.count(1), 1);
        Check.due("status stays", Check.status(x), "1 0 0");
        Check.due("image", x.image(), 0);
        Check.due("back", x.back(), 0);
    }

    private static void steps() {
        BentWords x = new BentWords();
        Check.put(x, "fill 1 9 87;empty 2;strict 1;form 8 3 1 words;drop 7 2 0");
        Check.due("text(1)", x.text(1), 0);
        int[][] want = {{0, 1, 9, 87, 0}, {1, 2, H, H, 0}, {2, 1, H, H, 0}, {3, 8, 3, 1, 5},
            {4, 7, 2, 0, 0}};
        for (int i = 0; i < want.length; i++) {
            for (int what = 0; what < 5; what++) {
                Check.due("step(0, " + i + ", " + what + ")", x.step(0, i, what), want[i][what]);
            }
            Check.due("step what -1", x.step(0, i, -1), H);
            Check.due("step what 5", x.step(0, i, 5), H);
        }
        Check.due("step(0, 5)", x.step(0, 5, 0), H);
        Check.due("step(0, -1)", x.step(0, -1, 0), H);
        Check.due("step(1, 0)", x.step(1, 0, 0), H);
        Check.due("step(-1, 0)", x.step(-1, 0, 0), H);
        Check.put(x, "drop 0 0 0");
        Check.due("text(1)", x.text(1), 1);
        Check.due("step(1, 0)", x.step(1, 0, 0), 4);
        Check.due("step(1, 0)", x.step(1, 0, 1), 0);
        Check.due("step(1, 1)", x.step(1, 1, 0), H);
        Check.due("run without a lexicon", x.run(0, 0), H);
        Check.due("perform without a lexicon", x.perform(0), N);
    }
}
