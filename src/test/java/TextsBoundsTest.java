/** Promises 1 to 5, sentence by sentence: a new object, the tape, faults, texts. */
public final class TextsBoundsTest {
    private static final int N = BentWords.NONE;
    private static final int H = BentWords.HIDDEN;
    private static final int BLANKS = 0x20202020;

    public static void main(String[] args) {
        Sentences.run(TextsBoundsTest.class);
    }

    private static BentWords filledTo(int bytes) {
        return Check.put(new BentWords(), " ".repeat(bytes));
    }

    // ---- promise 1

    @Sentence(promise = 1, says = "No LEXICON.")
    static void p01_noLexicon_countsAreZero() {
        BentWords x = new BentWords();
        for (int what = 0; what < 5; what++) {
            Check.due("count(" + what + ")", x.count(what), 0);
        }
        Check.due("status", Check.status(x), "0 0 0");
    }

    @Sentence(promise = 1, says = "No LEXICON.")
    static void p01_noLexicon_nothingCanBeAsked() {
        Twins.Maker made = BentWords::new;
        for (int what = 0; what < 7; what++) {
            int w = what;
            Twins.leavesOn(made, "rule(" + w + ")", x -> x.rule(w), N);
        }
        Check.due("noun throws", Check.nounThrows(new BentWords(), 0, 0), true);
        Twins.leavesOn(made, "form", x -> x.form(0, 0, 0, N), N);
        Twins.leavesOn(made, "byDefault", x -> x.byDefault(0, 0, 0), N);
        Twins.leavesOn(made, "article", x -> x.word(false, 0, 0, 0, N), N);
        Twins.leavesOn(made, "pronoun", x -> x.word(true, 0, 0, 0, N), N);
        Twins.leavesOn(made, "hole", x -> x.hole(0, 0), N);
        Twins.leavesOn(made, "message", x -> x.message(0, 0), N);
        Twins.leavesOn(made, "told", x -> x.told(0, 0), N);
        Twins.leavesOn(made, "why", x -> x.why(0, 0), N);
        Twins.leavesOn(made, "missing", x -> x.missing(0, N, 0), N);
        Twins.leavesOn(made, "bare", x -> x.bare(0), N);
        Twins.leavesOn(made, "fits", x -> x.fits(0, 0), N);
        Twins.leavesOn(made, "needs", x -> x.needs(0), N);
        Twins.leavesOn(made, "alike", x -> x.alike(0), N);
        Twins.leavesOn(made, "canBe", x -> x.canBe(0), N);
        Twins.leavesOn(made, "guess", x -> x.guess(0, N), N);
        Twins.leavesOn(made, "would", x -> x.would(0, 0, 1), N);
        Twins.leavesOn(made, "log", x -> x.log(0, 0), H);
        Twins.leavesOn(made, "step", x -> x.step(0, 0, 0), H);
        Twins.leavesOn(made, "run", x -> x.run(0, 0), H);
        Twins.leavesOn(made, "most", x -> x.most(0), H);
    }

    @Sentence(promise = 1, says = "No LEXICON.")
    static void p01_noLexicon_nothingCanBeDone() {
        Twins.Maker made = BentWords::new;
        Twins.refusedBy(made, "fill", x -> x.fill(0, 0, 1), N, 0);
        Twins.refusedBy(made, "empty", x -> x.empty(0), N, 0);
        Twins.refusedBy(made, "strict", x -> x.strict(1), N, 0);
        Twins.refusedBy(made, "tell", x -> x.tell(0, 0, 0), N, 0);
        Twins.refusedBy(made, "drop", x -> x.drop(0, 0, 0), N, 0);
        Twins.leavesOn(made, "ways", x -> x.ways(1, 0), N);
        Twins.leavesOn(made, "undo", x -> x.undo(), N);
        Twins.leavesOn(made, "perform", x -> x.perform(0), N);
        Twins.leavesOn(made, "image", x -> x.image(), N);
        Twins.leavesOn(made, "back", x -> x.back(), N);
    }

    @Sentence(promise = 1, says = "No LEXICON.")
    static void p01_noLexicon_alsoWhenAnotherObjectHasOne() {
        BentWords busy = Twins.busy();
        BentWords x = new BentWords();
        Check.due("rule", x.rule(0), N);
        Check.due("scripts", x.count(1), 0);
        Check.due("tape", x.count(2), 0);
        Check.due("status", Check.status(x), "0 0 0");
        Check.put(x, "noun a 0");
        x.text(0);
        Check.due("the other one stays", busy.rule(0), 2);
        Check.due("the other tape stays", busy.count(2), 6);
    }

    // ---- promise 2

    @Sentence(promise = 2, says = "Twenty bytes more come to the TAPE")
    static void p02_twentyBytesMore_inTheirOrder() {
        BentWords x = Check.with("noun a 0");
        // "form 0 0 0 abcdefgh ", all twenty
        Check.due("feed", x.feed(0x666f726d, 0x20302030, 0x20302061, 0x62636465, 0x66676820), 20);
        Check.due("text(1)", x.text(1), 0);
        Check.due("perform", x.perform(0), 1);
        Check.due("form", Check.form(x, 0, 0, 0), "abcdefgh");
    }

    @Sentence(promise = 2, says = "(of each number the highest first;")
    static void p02_theHighestFirst() {
        BentWords x = Check.with("noun a 0");
        Check.due("feed", x.feed(0x61626364, 0x65666768, 0, 0, 0), 8);
        x.tell(0, 0, 0);
        Check.due("form", Check.form(x, 0, 0, 0), "abcdefgh");
        Check.due("feed", x.feed(0x61, 0x6200, 0x630000, 0x64000000, 0x65660067), 7);
        x.tell(0, 0, 0);
        Check.due("form", Check.form(x, 0, 0, 0), "abcdefg");
    }

    @Sentence(promise = 2, says = "bytes of 0 are left out):")
    static void p02_bytesOf0AreLeftOut() {
        BentWords x = new BentWords();
        Check.due("none", x.feed(0, 0, 0, 0, 0), 0);
        int[] ones = {0x41000000, 0x410000, 0x4100, 0x41};
        for (int i = 0; i < 4; i++) {
            Check.due("one", x.feed(ones[i], 0, 0, 0, 0), 5 * i + 1);
            Check.due("one", x.feed(0, ones[i], 0, 0, 0), 5 * i + 2);
            Check.due("one", x.feed(0, 0, ones[i], 0, 0), 5 * i + 3);
            Check.due("one", x.feed(0, 0, 0, ones[i], 0), 5 * i + 4);
            Check.due("one", x.feed(0, 0, 0, 0, ones[i]), 5 * i + 5);
        }
        Check.due("the smallest int has one byte", x.feed(Integer.MIN_VALUE, 0, 0, 0, 0), 21);
        Check.due("the largest has four", x.feed(Integer.MAX_VALUE, 0, 0, 0, 0), 25);
        Check.due("-1 has four", x.feed(-1, -1, -1, -1, -1), 45);
        Check.due("0x01000001 has two", x.feed(0x01000001, 0, 0, 0, 0), 47);
    }

    @Sentence(promise = 2, says = "how many it has.")
    static void p02_howManyItHas() {
        BentWords x = new BentWords();
        for (int i = 1; i <= 24; i++) {
            Check.due("feed", x.feed(BLANKS, BLANKS, BLANKS, BLANKS, BLANKS), 20 * i);
            Check.due("count(2)", x.count(2), 20 * i);
        }
    }

    @Sentence(promise = 2, says = "NONE: more than 480.")
    static void p02_moreThan480_isRefusedWhole() {
        Check.due("to 480 by twenty", filledTo(460).feed(BLANKS, BLANKS, BLANKS, BLANKS, BLANKS), 480);
        Check.due("to 480 by one", filledTo(479).feed(0, 0, 0, 0, 1), 480);
        Check.due("480 by none", filledTo(480).feed(0, 0, 0, 0, 0), 480);
        Twins.leavesOn(() -> filledTo(480), "to 481", x -> x.feed(0, 0, 1, 0, 0), N);
        Twins.leavesOn(() -> filledTo(461), "to 481",
            x -> x.feed(BLANKS, BLANKS, BLANKS, BLANKS, BLANKS), N);
        Twins.leavesOn(() -> filledTo(479), "to 481", x -> x.feed(0x01000001, 0, 0, 0, 0), N);
        Twins.leavesOn(() -> filledTo(480), "to 500", x -> x.feed(-1, -1, -1, -1, -1), N);
    }

    @Sentence(promise = 2, says = "NONE: more than 480.")
    static void p02_moreThan480_aTapeMadeEmptyTakesMore() {
        BentWords x = filledTo(480);
        Check.due("full", x.feed(1, 0, 0, 0, 0), N);
        x.end(479);
        Check.due("one more", x.feed(1, 0, 0, 0, 0), 480);
        x.end(0);
        Check.due("from the begin", x.feed(-1, 0, 0, 0, 0), 4);
    }

    // ---- promise 3

    @Sentence(promise = 3, says = "The TAPE has its first n bytes alone.")
    static void p03_itsFirstBytesAlone() {
        BentWords x = Check.with("noun n 0");
        Check.put(x, "abcdefghijk");
        Check.due("all", x.end(11), true);
        Check.due("all", x.count(2), 11);
        Check.due("eight", x.end(8), true);
        Check.due("eight", x.count(2), 8);
        x.tell(0, 0, 0);
        Check.due("the first eight", Check.form(x, 0, 0, 0), "abcdefgh");
        Check.put(x, "abc");
        x.end(1);
        x.feed(0x7a000000, 0, 0, 0, 0);
        x.tell(0, 0, 0);
        Check.due("what comes then stands behind them", Check.form(x, 0, 0, 0), "az");
        Check.due("none of none", x.end(0), true);
        Check.put(x, "abc");
        Check.due("none", x.end(0), true);
        Check.due("none", x.count(2), 0);
        Check.due("480 of 480", filledTo(480).end(480), true);
    }

    @Sentence(promise = 3, says = "False: n.")
    static void p03_false_n() {
        for (int n : Check.beside(0, 6)) {
            Twins.leaves("end(" + n + ")", x -> x.end(n) ? 1 : 0, 0);
        }
        Check.due("1 of none", new BentWords().end(1), false);
        Check.due("-1 of none", new BentWords().end(-1), false);
        Check.due("481 of 480", filledTo(480).end(481), false);
        Check.due("-1 of 480", filledTo(480).end(-1), false);
        BentWords x = filledTo(20);
        x.end(10);
        Check.due("what is gone does not come again", x.end(11), false);
        Check.due("what is gone does not come again", x.end(20), false);
        Check.due("it stays", x.count(2), 10);
    }

    // ---- promise 4

    @Sentence(promise = 4, says = "The FAULT of the TAPE as a LEXICON (0), a SCRIPT (1).")
    static void p04_asALexicon_asAScript() {
        BentWords x = Check.put(new BentWords(), "form 0 0 0 x");
        Check.due("as a lexicon", x.fault(0), 5);
        Check.due("as a script", x.fault(1), N);
        Check.put(x, "noun a 0");
        Check.due("as a lexicon", x.fault(0), N);
        Check.due("as a script", x.fault(1), 0);
        Check.put(x, "");
        Check.due("of nothing", x.fault(0), 0);
        Check.due("of nothing", x.fault(1), 0);
    }

    @Sentence(promise = 4, says = "The FAULT of the TAPE as a LEXICON (0), a SCRIPT (1).")
    static void p04_nothingChangesByIt() {
        Twins.leaves("as a lexicon", x -> x.fault(0), 1);
        Twins.leaves("as a script", x -> x.fault(1), 1);
        Twins.Maker good = () -> Check.put(Twins.busy(), "noun z 2;form z 0 0 y;message m x");
        Twins.leavesOn(good, "as a lexicon", x -> x.fault(0), N);
        Twins.Maker script = () -> Check.put(Twins.busy(), "strict 1;empty 2;fill 2 2 2");
        Twins.leavesOn(script, "as a script", x -> x.fault(1), N);
        Twins.leavesOn(() -> full("empty 2;verb"), "as a fifth script", x -> x.fault(1), 8);
    }

    private static BentWords full(String text) {
        BentWords x = Twins.busy();
        Twins.script(x, "strict 0");
        Twins.script(x, "strict 1");
        return Check.put(x, text);
    }

    @Sentence(promise = 4, says = "NONE: none.")
    static void p04_none() {
        Check.due("a lexicon", Check.put(new BentWords(), Twins.BUSY).fault(0), N);
        Check.due("a script", Check.put(new BentWords(), "empty 0").fault(1), N);
        Check.due("a fifth script", full("empty 2").fault(1), N);
        String long480 = "noun a 0;message m x;" + " ".repeat(480 - 35) + "form a 0 0 xyz";
        Check.due("its length", long480.length(), 480);
        Check.due("a lexicon of 480 bytes", Check.put(new BentWords(), long480).fault(0), N);
        Check.due("the same without its last letters", Check.put(new BentWords(),
            long480.substring(0, 477)).fault(0), 477);
    }

    @Sentence(promise = 4, says = "-2: no such sort.")
    static void p04_noSuchSort() {
        for (int sort : Check.beside(0, 1)) {
            Twins.leaves("fault(" + sort + ")", x -> x.fault(sort), -2);
            Twins.leavesOn(BentWords::new, "fault(" + sort + ")", x -> x.fault(sort), -2);
        }
    }

    // ---- promise 5

    @Sentence(promise = 5, says = "The TAPE (empty then) is the LEXICON")
    static void p05_theTapeIsTheLexicon_emptyThen() {
        BentWords x = Check.put(new BentWords(), "noun a 0");
        Check.due("text(0)", x.text(0), 1);
        Check.due("the tape", x.count(2), 0);
        Check.due("the next one is of nothing", x.text(0), N);
        Check.due("the lexicon stays", x.rule(0), 1);
    }

    @Sentence(promise = 5, says = "(all that was of another one is gone but SCRIPTS, STATUS):")
    static void p05_allIsGone() {
        BentWords x = Check.put(Twins.busy(), "noun bee 2");
        BentWords y = new BentWords();
        Twins.script(y, "fill 2 1 7;empty 0;form 0 3 1 abc");
        Twins.script(y, "empty 2;drop 1 0 0");
        Check.put(y, "noun bee 2");
        Check.due("text(0)", x.text(0), 1);
        Check.due("text(0)", y.text(0), 1);
        Check.due("no message", x.rule(1), 0);
        Check.due("no article", x.rule(2), 0);
        Check.due("no pronoun", x.rule(3), 0);
        Check.due("no form", x.rule(4), 0);
        Check.due("not strict", x.rule(5), 0);
        Check.due("no hole is filled", x.most(4), 0);
        Check.due("no log", x.log(0, 0), H);
        Check.due("no undo", x.count(4), 0);
        Check.due("no image", x.back(), N);
        Twins.sameAnswers("as of a new object with the scripts", x, y);
    }

    @Sentence(promise = 5, says = "(all that was of another one is gone but SCRIPTS, STATUS):")
    static void p05_allIsGone_ofAFullOneAndOfAFaultyOne() {
        String items = " #0 0 @1 1 #2 2 @0 3 #1 0 @2 1 #0 2 @1 3";
        String full = "noun a 2;noun b 2;noun c 2;noun d 2;noun e 2;noun f 2;form a 3 1 x;form f 3 1 x;"
            + "message m" + items + ";message n" + items + ";message o" + items + ";message p" + items;
        BentWords x = Check.with(full);
        for (int hole = 0; hole < 3; hole++) {
            x.fill(hole, 5, 99);
        }
        x.strict(1);
        x.ways(40, 1);
        x.image();
        Check.put(x, full + ";article 0 0 0 a;pronoun 0 0 0 a;?");
        Check.due("a fault", x.fault(0) > 300, true);
        String small = "noun g 0;noun h 1;message q #0 0;message r x;message s %1 1 =0 1";
        Check.put(x, small);
        x.text(0);
        BentWords y = Check.with(small);
        for (BentWords z : new BentWords[] {x, y}) {
            z.fill(0, 0, 1);
            z.fill(1, 1, 1);
        }
        Check.due("told", Check.line(x, 0), "g");
        Check.due("told", Check.line(y, 0), "g");
        Twins.sameAnswers("as of a new object", x, y);
    }

    @Sentence(promise = 5, says = "(all that was of another one is gone but SCRIPTS, STATUS):")
    static void p05_scriptsAndStatusStay() {
        BentWords x = Check.put(Twins.busy(), Twins.BUSY);
        Check.due("text(0)", x.text(0), 2);
        Check.due("scripts", x.count(1), 2);
        Check.due("a step", x.step(0, 2, 4), 3);
        Check.due("status", Check.status(x), "1 1 1");
        Check.due("the same lexicon: no image of it", x.back(), N);
        Check.due("the same lexicon: its forms as they were told", x.rule(4), 3);
        Check.due("a script can be done", x.perform(0), 1);
    }

    @Sentence(promise = 5, says = "how many NOUNS;")
    static void p05_howManyNouns() {
        String text = "noun a 0";
        for (int nouns = 1; nouns <= 6; nouns++) {
            BentWords x = Check.put(new BentWords(), text);
            Check.due("text(0)", x.text(0), nouns);
            Check.due("rule(0)", x.rule(0), nouns);
            Check.due("count(0)", x.count(0), nouns);
            text += ";noun " + (char) ('a' + nouns) + " 0";
        }
    }

    @Sentence(promise = 5, says = "a SCRIPT: its number.")
    static void p05_aScriptsNumber() {
        BentWords x = new BentWords();
        for (int i = 0; i < 4; i++) {
            Check.put(x, "fill 0 " + i + " 1");
            Check.due("text(1)", x.text(1), i);
            Check.due("the tape", x.count(2), 0);
            Check.due("its step", x.step(i, 0, 2), i);
            Check.due("scripts", x.count(1), i + 1);
        }
    }

    @Sentence(promise = 5, says = "NONE: a FAULT (the TAPE stays),")
    static void p05_none_aFault() {
        for (String text : new String[] {"", "noun", "noun a 0;", "noun a 0;form a 0 0 x;verb",
            "message m x", "empty 0;"}) {
            Twins.Maker made = () -> Check.put(Twins.busy(), text);
            Twins.leavesOn(made, "text(0) of '" + text + "'", x -> x.text(0), N);
            Twins.leavesOn(made, "text(1) of '" + text + "'", x -> x.text(1), N);
            BentWords x = made.make();
            x.text(0);
            x.text(1);
            Check.due("the tape stays", x.count(2), text.length());
        }
    }

    @Sentence(promise = 5, says = "no such sort,")
    static void p05_none_noSuchSort() {
        Twins.Maker lexicon = () -> Check.put(Twins.busy(), "noun a 0");
        Twins.Maker script = () -> Check.put(Twins.busy(), "empty 0");
        for (int sort : Check.beside(0, 1)) {
            Twins.leavesOn(lexicon, "text(" + sort + ")", x -> x.text(sort), N);
            Twins.leavesOn(script, "text(" + sort + ")", x -> x.text(sort), N);
        }
    }

    @Sentence(promise = 5, says = "there are four SCRIPTS.")
    static void p05_none_fourScripts() {
        BentWords x = Twins.busy();
        Twins.script(x, "strict 0");
        Check.put(x, "strict 1");
        Check.due("a fourth", x.text(1), 3);
        Twins.leavesOn(() -> full("empty 2;empty 1"), "a fifth", y -> y.text(1), N);
        BentWords y = full("noun a 0");
        Check.due("a lexicon still can be", y.text(0), 1);
        Check.put(y, "empty 2");
        Check.due("still four", y.text(1), N);
    }
}
