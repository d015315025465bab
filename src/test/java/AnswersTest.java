/** Promises 6 to 21: what can be asked of a lexicon, its messages and holes. */
public final class AnswersTest {
    private static final int N = BentWords.NONE;

    /** Nouns of all kinds: dog has many forms, cat one, bee none. */
    private static final String FARM = "noun dog 0;noun cat 1;noun bee 2;"
        + "form dog 0 0 dog;form dog 0 1 dogs;form dog 1 0 doga;form dog 2 1 dogoz;"
        + "form cat 2 0 cato;"
        + "article 0 0 0 the;article 0 0 1 la;article 0 1 0 les;article 2 1 2 thoz;"
        + "pronoun 0 0 0 he;pronoun 1 1 1 them;";

    public static void main(String[] args) {
        rule();
        noun();
        formsAndDefaults();
        defaultsOneByOne();
        boundWords();
        holes();
        messages();
        whyAgree();
        whyStrict();
        missing();
        bareFitsNeeds();
        alikeAndCanBe();
        canBeByBlanks();
        guess();
        guessEdges();
        Check.finish();
    }

    private static void rule() {
        BentWords x = Check.with(FARM + "message m #0 0;message n x");
        int[] want = {3, 2, 4, 2, 5, 0, 2};
        for (int what = 0; what < 7; what++) {
            Check.due("rule(" + what + ")", x.rule(what), want[what]);
        }
        Check.due("rule(-1)", x.rule(-1), N);
        Check.due("rule(7)", x.rule(7), N);
        x.drop(0, 0, 0);
        Check.due("forms now", x.rule(4), 4);
        x.strict(1);
        Check.due("strict", x.rule(5), 1);
        x.strict(0);
        x.fill(0, 2, 0);
        Check.due("can be told", x.rule(6), 3);
    }

    private static void noun() {
        BentWords x = Check.with("noun a 0;noun abcdefgh 2;form a 0 0 b;form a 3 1 b");
        Check.due("kind", x.noun(0, 0), 0);
        Check.due("kind", x.noun(1, 0), 2);
        Check.due("letters", x.noun(0, 1), 1);
        Check.due("letters", x.noun(1, 1), 8);
        Check.due("forms", x.noun(0, 2), 2);
        Check.due("forms", x.noun(1, 2), 0);
        Check.put(x, "c");
        x.tell(1, 2, 1);
        Check.due("forms", x.noun(1, 2), 1);
        Check.due("forms", x.noun(0, 2), 2);
        int[][] none = {{2, 0}, {-1, 0}, {0, 3}, {0, -1}, {Integer.MAX_VALUE, 0},
            {Integer.MIN_VALUE, 2}};
        for (int[] w : none) {
            Check.due("noun throws", Check.nounThrows(x, w[0], w[1]), true);
        }
    }

    private static void formsAndDefaults() {
        BentWords x = Check.with(FARM + "message m x");
        String[] dog = {"dog", "dogs", "doga", "dogs", "dog", "dogoz", "dog", "dogs"};
        int[] byDog = {0, 0, 0, 1, 1, 0, 1, 1};
        String[] cat = {"cat", "cat", "cat", "cat", "cato", "cato", "cat", "cat"};
        int[] byCat = {4, 4, 4, 4, 0, 2, 4, 4};
        for (int i = 0; i < 8; i++) {
            Check.due("form of dog " + i, Check.form(x, 0, i / 2, i % 2), dog[i]);
            Check.due("byDefault of dog " + i, x.byDefault(0, i / 2, i % 2), byDog[i]);
            Check.due("form of cat " + i, Check.form(x, 1, i / 2, i % 2), cat[i]);
            Check.due("byDefault of cat " + i, x.byDefault(1, i / 2, i % 2), byCat[i]);
            Check.due("form of bee " + i, Check.form(x, 2, i / 2, i % 2), "bee");
            Check.due("byDefault of bee " + i, x.byDefault(2, i / 2, i % 2), 4);
        }
        int[][] none = {{3, 0, 0}, {-1, 0, 0}, {0, 4, 0}, {0, -1, 0}, {0, 0, 2}, {0, 0, -1}};
        for (int[] w : none) {
            Check.due("form", x.form(w[0], w[1], w[2], N), N);
            Check.due("form", x.form(w[0], w[1], w[2], 0), N);
            Check.due("byDefault", x.byDefault(w[0], w[1], w[2]), N);
        }
        Check.due("form(.., -2)", x.form(0, 0, 0, -2), N);
        Check.due("form(.., max)", x.form(0, 0, 0, Integer.MAX_VALUE), N);
    }

    private static void defaultsOneByOne() {
        // of case 3, number 1: all four stand, then one less each time
        BentWords x = Check.with("noun n 0;form n 3 1 a;form n 0 1 b;form n 3 0 c;form n 0 0 d");
        String[] forms = {"a", "b", "c", "d", "n"};
        int[][] drops = {{3, 1}, {0, 1}, {3, 0}, {0, 0}};
        for (int i = 0; i <= 4; i++) {
            Check.due("byDefault", x.byDefault(0, 3, 1), i);
            Check.due("form", Check.form(x, 0, 3, 1), forms[i]);
            if (i < 4) {
                Check.due("drop", x.drop(0, drops[i][0], drops[i][1]), 3 - i);
            }
        }
        BentWords y = Check.with("noun n 0;form n 0 0 d");
        Check.due("of case 0, number 1", y.byDefault(0, 0, 1), 2);
        Check.due("of case 1, number 0", y.byDefault(0, 1, 0), 1);
        Check.due("of case 1, number 1", y.byDefault(0, 1, 1), 3);
    }

    private static void boundWords() {
        BentWords x = Check.with(FARM + "message m x");
        Check.due("article", Check.bound(x, false, 0, 0, 0), "the");
        Check.due("article", Check.bound(x, false, 0, 0, 1), "la");
        Check.due("article by kind 0", Check.bound(x, false, 0, 0, 2), "the");
        Check.due("article by kind 0", Check.bound(x, false, 0, 1, 2), "les");
        Check.due("article of kind 2 alone", Check.bound(x, false, 2, 1, 2), "thoz");
        Check.due("no article", Check.bound(x, false, 2, 1, 1), "");
        Check.due("no article", Check.bound(x, false, 2, 1, 0), "");
        Check.due("pronoun", Check.bound(x, true, 0, 0, 1), "he");
        Check.due("pronoun", Check.bound(x, true, 1, 1, 1), "them");
        Check.due("no pronoun", Check.bound(x, true, 1, 1, 2), "");
        Check.due("no pronoun", Check.bound(x, true, 3, 1, 2), "");
        Check.due("no letter", x.word(true, 3, 1, 2, 0), N);
        int[][] none = {{4, 0, 0}, {-1, 0, 0}, {0, 2, 0}, {0, -1, 0}, {0, 0, 3}, {0, 0, -1}};
        for (int[] w : none) {
            Check.due("word", x.word(false, w[0], w[1], w[2], N), N);
            Check.due("word", x.word(true, w[0], w[1], w[2], N), N);
        }
        Check.due("word(.., -2)", x.word(false, 0, 0, 0, -2), N);
    }

    private static void holes() {
        BentWords x = Check.with(FARM + "message m x");
        for (int hole = -1; hole < 4; hole++) {
            for (int what = -1; what < 4; what++) {
                Check.due("hole", x.hole(hole, what), N);
            }
        }
        int[][] fills = {{0, 2, 0, 1}, {1, 1, 1, 0}, {2, 0, 99, 1}};
        for (int[] f : fills) {
            Check.due("fill", x.fill(f[0], f[1], f[2]), f[3]);
        }
        for (int[] f : fills) {
            Check.due("its noun", x.hole(f[0], 0), f[1]);
            Check.due("its count", x.hole(f[0], 1), f[2]);
            Check.due("its number", x.hole(f[0], 2), f[3]);
            Check.due("what -1", x.hole(f[0], -1), N);
            Check.due("what 3", x.hole(f[0], 3), N);
        }
        Check.due("hole 3", x.hole(3, 0), N);
        Check.due("hole -1", x.hole(-1, 0), N);
    }

    private static void messages() {
        BentWords x = Check.with(FARM + "message a the @0 0 and #1 2 x;message b $2 %0 0 $1;"
            + "message c =0 1;message d %1 3 y %1 3 @1 2");
        int[] items = {5, 3, 1, 4};
        int[] asked = {3, 7, 3, 2};
        for (int m = 0; m < 4; m++) {
            Check.due("items", x.message(m, 0), items[m]);
            Check.due("asked", x.message(m, 1), asked[m]);
            Check.due("can be told", x.message(m, 2), 0);
            Check.due("bytes", x.message(m, 3), N);
            Check.due("what 4", x.message(m, 4), N);
            Check.due("what -1", x.message(m, -1), N);
        }
        x.fill(0, 0, 1);
        x.fill(1, 1, 2);
        x.fill(2, 2, 10);
        Check.due("a", Check.line(x, 0), "the the dog and cato x");
        Check.due("b", Check.line(x, 1), "10 he 2");
        Check.due("c, numbers unlike", Check.line(x, 2), "-");
        Check.due("d, without pronouns and article", Check.line(x, 3), "y cato");
        Check.due("can be told", x.message(2, 2), 0);
        Check.due("can be told", x.message(3, 2), 1);
        x.fill(0, 2, 0);
        Check.due("a", Check.line(x, 0), "the les bee and cato x");
        Check.due("b, without a pronoun", Check.line(x, 1), "10 2");
        Check.due("c tells nothing", Check.line(x, 2), "");
        Check.due("c can be told", x.message(2, 2), 1);
        x.fill(1, 2, 3);
        Check.due("d", Check.line(x, 3), "y thoz bee");
        Check.due("message(4)", x.message(4, 0), N);
        Check.due("message(-1)", x.message(-1, 0), N);
        Check.due("told(4)", x.told(4, 0), N);
        Check.due("told(-1)", x.told(-1, 0), N);
        BentWords y = Check.with("noun abcdefgh 0;article 0 0 0 ijklmnop;"
            + "message m @0 0 @0 0 @0 0 @0 0 @0 0 @0 0 @0 0 @0 0");
        y.fill(0, 0, 1);
        Check.due("the longest line", Check.line(y, 0),
            "ijklmnop abcdefgh" + " ijklmnop abcdefgh".repeat(7));
    }

    private static void whyAgree() {
        BentWords x = Check.with(FARM + "message a x =1 0;message b !2 1 #0 0;message c x $2;"
            + "message d x");
        Check.due("both empty: the first", Check.why(x, 0), "1 1 0");
        Check.due("both empty: the first", Check.why(x, 1), "0 2 0");
        Check.due("empty", Check.why(x, 2), "1 2 0");
        Check.due("d", Check.why(x, 3), "-");
        x.fill(1, 0, 1);
        Check.due("the second is empty", Check.why(x, 0), "1 0 0");
        Check.due("the first is empty", Check.why(x, 1), "0 2 0");
        x.fill(0, 1, 0);
        x.fill(2, 1, 1);
        Check.due("numbers", Check.why(x, 0), "1 0 2");
        Check.due("kinds", Check.why(x, 1), "0 1 3");
        Check.due("c", Check.why(x, 2), "-");
        x.fill(0, 1, 1);
        Check.due("numbers agree", Check.why(x, 0), "-");
        x.fill(1, 1, 7);
        Check.due("kinds agree", Check.why(x, 1), "-");
        x.empty(0);
        Check.due("the first item", Check.why(x, 1), "1 0 0");
        Check.due("what 3", x.why(1, 3), N);
        Check.due("what -1", x.why(1, -1), N);
        Check.due("why(4)", x.why(4, 0), N);
        Check.due("why(-1)", x.why(-1, 0), N);
    }

    private static void whyStrict() {
        BentWords x = Check.with(FARM + "message a @0 0 x;message b x #0 2;message c %0 0;"
            + "message d $0 y");
        x.strict(1);
        x.fill(0, 0, 1);
        Check.due("article and form are told", Check.line(x, 0), "the dog x");
        Check.due("no form", Check.why(x, 1), "1 0 1");
        Check.due("pronoun", Check.line(x, 2), "he");
        Check.due("count", Check.line(x, 3), "1 y");
        x.fill(0, 0, 2);
        Check.due("article and form are told", Check.line(x, 0), "les dogs x");
        Check.due("the form", Check.line(x, 1), "x dogoz");
        Check.due("no pronoun", Check.why(x, 2), "0 0 4");
        x.fill(0, 1, 1);
        Check.due("the article is told, the form is not", Check.why(x, 0), "0 0 1");
        Check.due("the form", Check.line(x, 1), "x cato");
        Check.due("a pronoun by kind 0 alone", Check.why(x, 2), "0 0 4");
        x.fill(0, 2, 1);
        Check.due("neither: the article ahead of the form", Check.why(x, 0), "0 0 4");
        Check.due("can't be told", x.rule(6), 8);
        x.strict(0);
        Check.due("can be told", x.rule(6), 15);
        Check.due("a", Check.line(x, 0), "the bee x");
        Check.due("c", Check.line(x, 2), "he");
    }

    private static void missing() {
        BentWords x = Check.with(FARM + "message a #0 0 @0 2 %0 2 $1 #1 2 #2 0 #1 3;message b x");
        Check.due("nothing is filled", x.missing(0, N, 0), 0);
        Check.due("nothing is filled", x.missing(0, 0, 0), N);
        x.fill(0, 0, 1);
        x.fill(1, 1, 5);
        int[][] want = {{0, 2, 0, 1}, {1, 2, 1, 2}, {1, 3, 1, 4}};
        Check.due("missing", x.missing(0, N, 0), 3);
        for (int i = 0; i < 3; i++) {
            for (int what = 0; what < 4; what++) {
                Check.due("missing(0, " + i + ", " + what + ")", x.missing(0, i, what),
                    want[i][what]);
            }
            Check.due("what 4", x.missing(0, i, 4), N);
            Check.due("what -1", x.missing(0, i, -1), N);
        }
        Check.due("a fourth", x.missing(0, 3, 0), N);
        Check.due("i -2", x.missing(0, -2, 0), N);
        Check.due("b", x.missing(1, N, 0), 0);
        Check.due("missing(2)", x.missing(2, N, 0), N);
        Check.due("missing(-1)", x.missing(-1, N, 0), N);
        x.strict(1);
        Check.due("strict or not", x.missing(0, N, 0), 3);
    }

    private static void bareFitsNeeds() {
        BentWords x = Check.with(FARM + "message a #0 0 @0 2 #1 1;message b %0 0 $1 =1 2;"
            + "message c #2 0 #1 0");
        Check.due("bare", x.bare(0), 255 - 1 - 2 - 4 - 32);
        Check.due("bare", x.bare(1), 255 - 16);
        Check.due("bare", x.bare(2), 255);
        Check.due("bare(3)", x.bare(3), N);
        Check.due("bare(-1)", x.bare(-1), N);
        Check.due("fits: dog lacks 2 0", x.fits(0, 0), 0);
        Check.due("fits: dog lacks 1 1", x.fits(0, 1), 0);
        Check.due("fits a hole that is not asked", x.fits(0, 2), 7);
        Check.due("fits: pronouns ask no form", x.fits(1, 0), 7);
        Check.due("fits", x.fits(1, 1), 7);
        Check.due("fits: dog has 0 0, 0 1", x.fits(2, 2), 1);
        Check.due("fits", x.fits(2, 1), 1);
        Check.due("fits", x.fits(2, 0), 7);
        Check.due("fits(3)", x.fits(3, 0), N);
        Check.due("fits(-1)", x.fits(-1, 0), N);
        Check.due("fits(.., 3)", x.fits(0, 3), N);
        Check.due("fits(.., -1)", x.fits(0, -1), N);
        // cases 0, 1, 2: dog lacks 2, cat 5, bee 6
        Check.due("needs", x.needs(0), 13);
        Check.due("needs", x.needs(1), 0);
        Check.due("needs: a case asked twice", x.needs(2), 4);
        Check.due("needs(3)", x.needs(3), N);
        Check.due("needs(-1)", x.needs(-1), N);
        Check.put(x, "dogo");
        x.tell(0, 2, 0);
        Check.due("an article by default is no matter", x.fits(0, 0), 1);
        Check.due("needs", x.needs(0), 12);
        Check.due("bare", x.bare(0), 255 - 1 - 2 - 4 - 16 - 32);
    }

    private static void alikeAndCanBe() {
        BentWords x = Check.with(FARM + "form bee 0 1 bee;message m x");
        Check.due("alike", x.alike(0), 4);
        Check.due("alike", x.alike(1), 2);
        Check.due("alike", x.alike(2), 1);
        Check.due("alike(3)", x.alike(3), N);
        Check.due("alike(-1)", x.alike(-1), N);
        Check.put(x, "dogs");
        Check.due("canBe", x.canBe(0), 2 + 8 + 128);
        Check.due("canBe", x.canBe(1), 0);
        Check.due("the tape stays", x.count(2), 4);
        Check.put(x, "cat");
        Check.due("canBe", x.canBe(1), 255 - 16 - 32);
        Check.put(x, "cato");
        Check.due("canBe", x.canBe(1), 16 + 32);
        Check.put(x, "bee");
        Check.due("canBe", x.canBe(2), 255);
        Check.due("canBe(3)", x.canBe(3), N);
        Check.due("canBe(-1)", x.canBe(-1), N);
        x.end(2);
        Check.due("canBe of be", x.canBe(2), 0);
        x.end(0);
        Check.due("canBe of nothing", x.canBe(2), 0);
        Check.put(x, "bees");
        Check.due("canBe of bees", x.canBe(2), 0);
        Check.put(x, "beebeebeebee");
        Check.due("canBe of a long one", x.canBe(2), 0);
    }

    private static void canBeByBlanks() {
        BentWords x = Check.with("noun abcdefgh 0;noun a 1");
        Check.put(x, "  abcdefgh ");
        Check.due("blanks ahead and behind", x.canBe(0), 255);
        Check.put(x, "abcdefghi");
        Check.due("nine letters", x.canBe(0), 0);
        Check.put(x, "a a");
        Check.due("two words", x.canBe(1), 0);
        Check.put(x, "a;");
        Check.due("a sign behind", x.canBe(1), 0);
    }

    private static void guess() {
        BentWords x = Check.with("noun ox 0;noun oxen 0;noun ant 1;form ox 0 1 oxen;"
            + "message a #0 0 eats #2 0;message b $1 #1 0;message c x y;message d =0 1 !0 1 #0 0");
        Check.put(x, "oxen eats ox");
        // oxen: ox by 2, oxen by 1 or 2; ox: ox by 1
        Check.due("ways", x.guess(0, N), 3);
        int[] first = {0, N, 0, 2, N, 1};
        for (int what = 0; what < 6; what++) {
            Check.due("guess(0, " + what + ")", x.guess(0, what), first[what]);
        }
        Check.due("what 6", x.guess(0, 6), N);
        Check.due("what -2", x.guess(0, -2), N);
        Check.due("guess(4)", x.guess(4, N), N);
        Check.due("guess(-1)", x.guess(-1, N), N);
        Check.due("no way", x.guess(1, N), N);
        Check.due("no way", x.guess(1, 1), N);
        Check.due("the tape stays", x.count(2), 12);
        Check.due("the holes stay", x.most(4), 0);
        Check.put(x, "2 oxen");
        Check.due("ways", x.guess(1, N), 2);
        Check.due("noun", x.guess(1, 1), 0);
        Check.due("count", x.guess(1, 4), 2);
        Check.put(x, "3 oxen");
        Check.due("counts 1 and 2 alone", x.guess(1, N), N);
        Check.put(x, "x y");
        Check.due("no hole: one way", x.guess(2, N), 1);
        Check.due("no hole is asked", x.guess(2, 0), N);
        Check.due("no hole is asked", x.guess(2, 3), N);
        Check.put(x, "oxen");
        // hole 0: ox by 2, oxen by 1 or 2; hole 1: a noun of kind 0 by the same count
        Check.due("ways that agree", x.guess(3, N), 6);
        int[] agree = {0, 0, N, 2, 2, N};
        for (int what = 0; what < 6; what++) {
            Check.due("guess(3, " + what + ")", x.guess(3, what), agree[what]);
        }
        x.strict(1);
        Check.due("strict: ox by 2 alone", x.guess(3, N), 2);
        x.fill(0, 2, 50);
        Check.due("what is filled is no matter", x.guess(3, N), 2);
        Check.due("it stays", x.hole(0, 0), 2);
        Check.due("it stays", x.hole(0, 1), 50);
    }

    private static void guessEdges() {
        BentWords x = Check.with("noun a 0;noun b 0;message m =0 1;message n #0 0 x;message o %2 0;"
            + "message p #0 0 #1 0 #2 0");
        Check.due("told by nothing", x.guess(0, N), 8);
        Check.due("the first", x.guess(0, 1), 0);
        Check.due("the first", x.guess(0, 4), 1);
        Check.due("left out", x.guess(2, N), 4);
        Check.put(x, "a x ");
        Check.due("to the byte", x.guess(1, N), N);
        Check.put(x, " a x");
        Check.due("to the byte", x.guess(1, N), N);
        Check.put(x, "a  x");
        Check.due("to the byte", x.guess(1, N), N);
        Check.put(x, "a x");
        Check.due("to the byte", x.guess(1, N), 2);
        Check.put(x, "a");
        Check.due("too short", x.guess(1, N), N);
        Check.put(x, "a x y");
        Check.due("too long", x.guess(1, N), N);
        Check.put(x, "b a b");
        Check.due("three holes", x.guess(3, N), 8);
        int[] first = {1, 0, 1, 1, 1, 1};
        for (int what = 0; what < 6; what++) {
            Check.due("guess(3, " + what + ")", x.guess(3, what), first[what]);
        }
        Check.put(x, "a".repeat(480));
        Check.due("a long tape", x.guess(3, N), N);
        // hole 0 changes slowest: its lowest noun decides, also when hole 1 must then be high
        BentWords y = Check.with("noun a 0;noun b 1;noun c 1;message m !0 1 =0 1 $1 x");
        Check.put(y, "2 x");
        Check.due("ways", y.guess(0, N), 5);
        int[] low = {0, 0, N, 2, 2, N};
        for (int what = 0; what < 6; what++) {
            Check.due("guess(0, " + what + ")", y.guess(0, what), low[what]);
        }
    }
}
