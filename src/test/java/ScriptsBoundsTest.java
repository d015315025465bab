/** Promises 32 to 38, sentence by sentence: scripts, what is the most, images, counts; long runs. */
public final class ScriptsBoundsTest {
    private static final int N = BentWords.NONE;
    private static final int H = BentWords.HIDDEN;
    private static final String SIX = "noun a 0;noun b 0;noun c 0;noun d 0;noun e 0;noun f 0";

    public static void main(String[] args) {
        Sentences.run(ScriptsBoundsTest.class);
    }

    // ---- promise 32

    @Sentence(promise = 32, says = "A STEP of a SCRIPT: 0 what (as the LOG's sorts), 1 to 3 its numbers (HIDDEN: there are fewer),")
    static void p32_sortsAndNumbers() {
        BentWords x = new BentWords();
        Twins.script(x, "fill 0 0 0;fill 2 9 99;empty 0;empty 2;strict 0;strict 1;form 0 0 0 a;"
            + "form 9 3 1 b;drop 0 0 0;drop 9 3 1");
        int[][] want = {{0, 0, 0, 0}, {0, 2, 9, 99}, {1, 0, H, H}, {1, 2, H, H}, {2, 0, H, H},
            {2, 1, H, H}, {3, 0, 0, 0}, {3, 9, 3, 1}, {4, 0, 0, 0}, {4, 9, 3, 1}};
        for (int i = 0; i < want.length; i++) {
            for (int what = 0; what < 4; what++) {
                Check.due("step(0, " + i + ", " + what + ")", x.step(0, i, what), want[i][what]);
            }
        }
        Twins.script(x, "fill 0 0 07");
        Check.due("a count of two digits", x.step(1, 0, 3), 7);
    }

    @Sentence(promise = 32, says = "4 how many letters.")
    static void p32_letters_0To8() {
        BentWords x = new BentWords();
        Twins.script(x, "form 0 0 0 a;form 0 0 0 abcdefgh;fill 0 0 0;empty 0;strict 0;drop 0 0 0");
        int[] want = {1, 8, 0, 0, 0, 0};
        for (int i = 0; i < 6; i++) {
            Check.due("letters of " + i, x.step(0, i, 4), want[i]);
        }
        Check.put(x, "form 9 3 1 abcdefgh;form 9 3 1 abcdefgh;verb");
        x.fault(1);
        Twins.script(x, "fill 2 1 0;strict 1");
        Check.due("not those of a text with a fault", x.step(1, 0, 4), 0);
        Check.due("not those of a text with a fault", x.step(1, 1, 4), 0);
        Check.due("nor its numbers", x.step(1, 1, 2), H);
        Check.due("nor its steps", x.step(1, 2, 0), H);
    }

    @Sentence(promise = 32, says = "HIDDEN: no such ones.")
    static void p32_hidden() {
        for (int script : Check.beside(0, 1)) {
            Twins.leaves("script " + script, x -> x.step(script, 0, 0), H);
        }
        for (int i : Check.beside(0, 2)) {
            Twins.leaves("i " + i, x -> x.step(0, i, 0), H);
        }
        for (int what : Check.beside(0, 4)) {
            Twins.leaves("what " + what, x -> x.step(0, 0, what), H);
        }
        Twins.leaves("the last step", x -> x.step(0, 2, 4), 3);
        Twins.leaves("the last step", x -> x.step(1, 1, 0), 4);
        Twins.leaves("of another script", x -> x.step(1, 2, 0), H);
        Twins.leavesOn(BentWords::new, "no script", x -> x.step(0, 0, 0), H);
    }

    @Sentence(promise = 32, says = "HIDDEN: no such ones.")
    static void p32_hidden_fullScripts() {
        BentWords x = new BentWords();
        for (int i = 0; i < 4; i++) {
            Twins.script(x, "strict 0" + ";strict 1".repeat(11));
        }
        Check.due("the last step of the last script", x.step(3, 11, 1), 1);
        Check.due("a 13th step", x.step(3, 12, 0), H);
        Check.due("a fifth script", x.step(4, 0, 0), H);
        Check.put(x, "empty 2");
        x.fault(1);
        Check.due("a fifth script, also when one was read", x.step(4, 0, 0), H);
    }

    // ---- promise 33

    @Sentence(promise = 33, says = "RUN: behind how many (0; NONE: all can be), MESSAGES (1).")
    static void p33_behindHowMany_0To11() {
        BentWords x = Check.with("noun a 0;message m $0");
        Twins.script(x, "empty 0;fill 0 0 1");
        Twins.script(x, "fill 0 0 1;empty 0;fill 0 0 1;empty 0;fill 0 0 1;empty 0;fill 0 0 1;empty 0;"
            + "fill 0 0 1;empty 0;fill 0 0 1;fill 0 0 1");
        Twins.script(x, "fill 0 0 1;empty 0;fill 0 0 1;empty 0;fill 0 0 1;empty 0;fill 0 0 1;empty 0;"
            + "fill 0 0 1;empty 0;fill 0 0 1;empty 0");
        Twins.script(x, "fill 0 0 1");
        int[] behind = {0, 11, N, N};
        int[] told = {0, 1, 0, 1};
        for (int i = 0; i < 4; i++) {
            Check.due("behind", x.run(i, 0), behind[i]);
            Check.due("messages", x.run(i, 1), told[i]);
        }
        Check.due("nothing was done", x.count(3), 0);
    }

    @Sentence(promise = 33, says = "RUN: behind how many (0; NONE: all can be), MESSAGES (1).")
    static void p33_eachSortThatCantBe() {
        String[] cant = {"fill 0 0 1", "fill 0 2 1", "fill 0 9 1", "empty 1", "strict 1", "form 0 0 0 x",
            "form 2 0 0 x", "drop 0 0 1", "drop 2 0 0", "drop 9 0 0"};
        for (String step : cant) {
            BentWords x = Check.with("noun a 0;noun b 0;form a 0 0 x");
            x.fill(0, 0, 1);
            x.strict(1);
            Twins.script(x, "fill 2 0 1;" + step + ";fill 2 0 2");
            Check.due("run of " + step, x.run(0, 0), 1);
            Check.due("perform of " + step, x.perform(0), 1);
        }
        String[] can = {"fill 0 1 1", "fill 0 0 99", "empty 0", "strict 0", "form 0 0 0 y", "form 1 3 1 x",
            "drop 0 0 0"};
        for (String step : can) {
            BentWords x = Check.with("noun a 0;noun b 0;form a 0 0 x");
            x.fill(0, 0, 1);
            x.strict(1);
            Twins.script(x, "fill 2 0 1;" + step + ";fill 2 0 2");
            Check.due("run of " + step, x.run(0, 0), N);
            Check.due("perform of " + step, x.perform(0), 3);
        }
    }

    @Sentence(promise = 33, says = "HIDDEN: no such SCRIPT, no LEXICON, no such what.")
    static void p33_hidden() {
        for (int what = 0; what < 2; what++) {
            int w = what;
            for (int script : Check.beside(0, 1)) {
                Twins.leaves("script " + script, x -> x.run(script, w), H);
            }
            Twins.leavesOn(Twins::bare, "no lexicon", x -> x.run(0, w), H);
        }
        for (int what : Check.beside(0, 1)) {
            Twins.leaves("what " + what, x -> x.run(0, what), H);
        }
        Twins.leaves("just inside", x -> x.run(1, 1), 1);
    }

    // ---- promise 34

    @Sentence(promise = 34, says = "DO: how many STEPS were done.")
    static void p34_0To12() {
        BentWords x = Check.with("noun a 0;message m $0");
        Twins.script(x, "empty 0;fill 0 0 1");
        Twins.script(x, "fill 0 0 1;empty 0;fill 0 0 1;empty 0;fill 0 0 1;empty 0;fill 0 0 1;empty 0;"
            + "fill 0 0 1;empty 0;fill 0 0 1;form 0 3 1 x");
        Check.due("none", x.perform(0), 0);
        Check.due("twelve", x.perform(1), 12);
        Check.due("twelve acts", x.count(3), 12);
        Check.due("the last one", Check.row(x, 0), "3 0 1");
        Check.due("the first one", Check.row(x, 11), "0 0 1");
        Check.due("it is so", x.perform(1), 0);
        Check.due("both now", x.perform(0), 2);
        Check.due("no status", Check.status(x), "0 0 0");
        for (int left = 13; left >= 0; left--) {
            Check.due("undo", x.undo(), left);
        }
    }

    @Sentence(promise = 34, says = "DO: how many STEPS were done.")
    static void p34_theTapeStays() {
        BentWords x = Twins.busy();
        Check.due("perform", x.perform(0), 3);
        Check.due("told by the step's text", Check.form(x, 0, 3, 1), "abc");
        Check.due("the tape", x.count(2), 6);
        Check.due("the status", Check.status(x), "1 1 1");
    }

    @Sentence(promise = 34, says = "NONE: no such SCRIPT, no LEXICON.")
    static void p34_none() {
        for (int script : Check.beside(0, 1)) {
            Twins.leaves("script " + script, x -> x.perform(script), N);
            Twins.leavesOn(Twins::bare, "no lexicon", x -> x.perform(script), N);
        }
        Twins.leavesOn(Twins::bare, "no lexicon", x -> x.perform(0), N);
        Twins.leavesOn(() -> Check.with("noun a 0"), "no script", x -> x.perform(0), N);
    }

    // ---- promise 35

    @Sentence(promise = 35, says = "LONGEST (0; NONE: none can be TOLD), its bytes (1; 0),")
    static void p35_longest() {
        BentWords x = Check.with("noun a 0;message m %0 0;message n =0 1;message o $0;message p $0");
        Check.due("none", x.most(0), N);
        Check.due("no bytes", x.most(1), 0);
        x.fill(0, 0, 1);
        Check.due("of two the lowest", x.most(0), 2);
        Check.due("one byte", x.most(1), 1);
        BentWords y = Check.with("noun a 0;message m $1;message n %0 0;message o %0 0");
        y.fill(0, 0, 1);
        Check.due("one told by no bytes", y.most(0), 1);
        Check.due("no bytes", y.most(1), 0);
        BentWords z = Check.with("noun abcdefgh 0;article 0 0 0 abcdefgh;message m x;"
            + "message n @0 0 @0 0 @0 0 @0 0 @0 0 @0 0 @0 0 @0 0");
        z.fill(0, 0, 1);
        Check.due("the longest there is", z.most(0), 1);
        Check.due("its bytes", z.most(1), 143);
        Check.due("without messages", Check.with("noun a 0").most(0), N);
        Check.due("without messages", Check.with("noun a 0").most(1), 0);
    }

    @Sentence(promise = 35, says = "MISSING of all MESSAGES (2),")
    static void p35_missingOfAll_0To32() {
        String eight = " #0 0 #0 1 #0 2 #0 3 @0 0 @0 1 @0 2 @0 3";
        BentWords x = Check.with("noun a 0;message m" + eight + ";message n" + eight + ";message o" + eight
            + ";message p" + eight);
        Check.due("none is filled", x.most(2), 0);
        x.fill(0, 0, 1);
        Check.due("32", x.most(2), 32);
        Check.put(x, "x");
        x.tell(0, 3, 0);
        Check.due("two less of each", x.most(2), 24);
        Check.put(x, "x");
        x.tell(0, 0, 0);
        Check.put(x, "x");
        x.tell(0, 1, 0);
        Check.put(x, "x");
        x.tell(0, 2, 0);
        Check.due("none", x.most(2), 0);
        Check.due("without messages", Check.with("noun a 0").most(2), 0);
    }

    @Sentence(promise = 35, says = "the NOUN with fewest FORMS told (3; of several the lowest),")
    static void p35_fewestForms() {
        BentWords x = Check.with(SIX);
        for (int noun = 0; noun < 5; noun++) {
            Check.due("of several the lowest", x.most(3), noun);
            Check.put(x, "x");
            x.tell(noun, 0, 0);
        }
        Check.due("the last one", x.most(3), 5);
        Check.put(x, "x");
        x.tell(5, 0, 0);
        Check.due("all by one", x.most(3), 0);
        x.drop(3, 0, 0);
        Check.due("the one without", x.most(3), 3);
        Check.due("the only one", Check.with("noun a 0").most(3), 0);
    }

    @Sentence(promise = 35, says = "HOLES that are FILLED (4, bits),")
    static void p35_filled_0To7() {
        BentWords x = Check.with("noun a 0");
        Check.due("none", x.most(4), 0);
        x.fill(2, 0, 0);
        Check.due("the last", x.most(4), 4);
        x.fill(0, 0, 0);
        Check.due("two", x.most(4), 5);
        x.fill(1, 0, 0);
        Check.due("all", x.most(4), 7);
        x.empty(0);
        Check.due("two", x.most(4), 6);
        BentWords y = Check.with(SIX + ";form f 3 1 x");
        y.strict(1);
        Check.due("strict, and forms, are no matter", y.most(4), 0);
    }

    @Sentence(promise = 35, says = "FORMS told that are as another one of their NOUN (5),")
    static void p35_alikeForms_0To48() {
        BentWords x = Check.with(SIX + ";form a 0 0 x;form b 0 0 x");
        Check.due("of two nouns", x.most(5), 0);
        Check.put(x, "x");
        x.tell(0, 3, 1);
        Check.due("two of a noun", x.most(5), 2);
        Check.put(x, "x");
        x.tell(0, 1, 1);
        Check.due("three of a noun", x.most(5), 3);
        Check.put(x, "b");
        x.tell(1, 1, 1);
        Check.due("as the name", x.most(5), 3);
        BentWords y = Check.with(SIX);
        for (int i = 0; i < 48; i++) {
            y.feed('x', 0, 0, 0, 0);
            y.tell(i / 8, i / 2 % 4, i % 2);
        }
        Check.due("48", y.most(5), 48);
        y.feed('z', 0, 0, 0, 0);
        y.tell(5, 3, 1);
        Check.due("one is unlike", y.most(5), 47);
    }

    @Sentence(promise = 35, says = "MESSAGES with WHY 0, 1, .. 4 (6 to 10: how many).")
    static void p35_whys_0To4() {
        String[] items = {"$0", "#1 0", "=1 2", "!1 2", "%1 0"};
        for (int why = 0; why < 5; why++) {
            String item = " " + items[why];
            BentWords x = Check.with("noun a 0;noun b 1;message m" + item + ";message n x" + item
                + ";message o x y" + item + ";message p z" + item);
            x.fill(1, 0, 1);
            x.fill(2, 1, 2);
            x.strict(1);
            for (int what = 0; what < 5; what++) {
                Check.due("why " + what + " of" + item, x.most(6 + what), what == why ? 4 : 0);
            }
        }
        BentWords y = Check.with("noun a 0;message m x");
        for (int what = 6; what <= 10; what++) {
            Check.due("none", y.most(what), 0);
        }
    }

    @Sentence(promise = 35, says = "HIDDEN: no LEXICON, no such what.")
    static void p35_hidden() {
        for (int what : Check.beside(0, 10)) {
            Twins.leaves("most(" + what + ")", x -> x.most(what), H);
        }
        for (int what = -1; what <= 11; what++) {
            int w = what;
            Twins.leavesOn(Twins::bare, "no lexicon", x -> x.most(w), H);
        }
        Twins.leaves("just inside", x -> x.most(10), 0);
    }

    // ---- promise 36

    @Sentence(promise = 36, says = "An IMAGE (instead of the one ahead): MESSAGES that can be TOLD, how many.")
    static void p36_insteadOfTheOneAhead() {
        BentWords x = Check.with("noun a 0;message m $0;message n $1;message o $2;message p z");
        Check.due("one", x.image(), 1);
        x.fill(0, 0, 1);
        Check.due("two", x.image(), 2);
        x.fill(1, 0, 1);
        x.fill(2, 0, 1);
        Check.due("four", x.rule(6), 15);
        Check.due("back to the latest image", x.back(), 2);
        Check.due("hole 0", x.hole(0, 1), 1);
        Check.due("hole 1", x.hole(1, 0), N);
        Check.due("without messages", Check.with("noun a 0").image(), 0);
    }

    @Sentence(promise = 36, says = "An IMAGE (instead of the one ahead): MESSAGES that can be TOLD, how many.")
    static void p36_isNoAct() {
        BentWords x = Twins.busy();
        Check.due("image", x.image(), 1);
        Check.due("log", x.count(3), 5);
        Check.due("undo still can be", x.count(4), 5);
        Check.due("undo", x.undo(), 4);
        Check.due("back behind an undo", x.back(), 1);
        Check.due("as of the image", x.byDefault(0, 0, 1), 2);
        Check.due("log", x.count(3), 5);
    }

    @Sentence(promise = 36, says = "NONE: no LEXICON.")
    static void p36_none() {
        Twins.leavesOn(Twins::bare, "no lexicon", x -> x.image(), N);
        Twins.leavesOn(BentWords::new, "no lexicon", x -> x.image(), N);
    }

    // ---- promise 37

    @Sentence(promise = 37, says = "BACK: MESSAGES likewise.")
    static void p37_howMany_alsoTwice() {
        BentWords x = Twins.busy();
        Check.due("back", x.back(), 2);
        Check.due("messages", x.rule(6), 4 + 1);
        Check.due("back once more", x.back(), 2);
        x.fill(2, 0, 9);
        x.strict(1);
        Check.due("back", x.back(), 2);
        Check.due("hole 2", x.hole(2, 0), N);
        Check.due("not strict", x.rule(5), 0);
        Check.due("log", x.count(3), 2);
    }

    @Sentence(promise = 37, says = "BACK: MESSAGES likewise.")
    static void p37_theLogOfThen_alsoWhenFull() {
        BentWords x = Check.with("noun a 0;message m $0");
        for (int i = 0; i < 75; i++) {
            x.fill(i % 2, 0, i);
        }
        x.image();
        for (int i = 0; i < 75; i++) {
            x.fill(2, 0, i);
        }
        x.back();
        Check.due("rows", x.count(3), 60);
        for (int i = 0; i < 60; i++) {
            Check.due("row " + i, x.log(i, 1), i % 2);
        }
        Check.due("no undo", x.undo(), N);
        x.fill(2, 0, 5);
        Check.due("one more", x.log(0, 1), 2);
        Check.due("undo of that alone", x.undo(), 0);
        Check.due("the row that it had pushed out", x.log(59, 1), 1);
        Check.due("no more", x.undo(), N);
    }

    @Sentence(promise = 37, says = "NONE: no IMAGE of this LEXICON.")
    static void p37_none() {
        Twins.leavesOn(BentWords::new, "no lexicon", x -> x.back(), N);
        Twins.leavesOn(() -> {
            BentWords x = Check.with(Twins.BUSY);
            x.fill(0, 0, 1);
            return x;
        }, "no image", x -> x.back(), N);
        Twins.leavesOn(() -> {
            BentWords x = Check.put(Twins.busy(), Twins.BUSY);
            x.text(0);
            x.fill(0, 0, 1);
            return x;
        }, "an image of another one, be it told alike", x -> x.back(), N);
        BentWords x = Check.put(Twins.busy(), "noun");
        Check.due("what is no lexicon", x.text(0), N);
        Check.due("leaves the image", x.back(), 2);
    }

    // ---- promise 38

    @Sentence(promise = 38, says = "0 NOUNS, 1 SCRIPTS, 2 bytes of the TAPE, 3 how long the LOG is, 4 ACTS that can be UNDONE.")
    static void p38_leastAndMost() {
        BentWords x = new BentWords();
        for (int what = 0; what < 5; what++) {
            Check.due("least", x.count(what), 0);
        }
        for (int i = 0; i < 4; i++) {
            Twins.script(x, "empty 0");
        }
        Check.put(x, SIX);
        x.text(0);
        for (int i = 0; i < 70; i++) {
            x.fill(0, 0, i);
        }
        Check.put(x, "x".repeat(480));
        int[] most = {6, 4, 480, 60, 40};
        for (int what = 0; what < 5; what++) {
            Check.due("most", x.count(what), most[what]);
        }
    }

    @Sentence(promise = 38, says = "HIDDEN for others.")
    static void p38_hidden() {
        for (int what : Check.beside(0, 4)) {
            Twins.leaves("count(" + what + ")", x -> x.count(what), H);
            Twins.leavesOn(BentWords::new, "count(" + what + ")", x -> x.count(what), H);
        }
    }

    // ---- long runs

    @Sentence(promise = 0, says = "An object is used for at most 512 calls after it has been made;")
    static void t0_512Calls_acts() {
        BentWords x = new BentWords();
        x.feed(0x6e6f756e, 0x20612030, 0, 0, 0);
        x.text(0);
        for (int i = 0; i < 504; i++) {
            Check.due("fill", x.fill(i % 3, 0, i / 3 % 100), i / 3 % 100 == 1 ? 0 : 1);
        }
        Check.due("call 507", x.count(3), 60);
        Check.due("call 508", x.count(4), 40);
        Check.due("call 509", x.log(59, 1), 0);
        Check.due("call 510", x.undo(), 39);
        Check.due("call 511", x.log(59, 1), 2);
        Check.due("call 512", x.hole(2, 1), 66);
    }

    @Sentence(promise = 0, says = "An object is used for at most 512 calls after it has been made;")
    static void t0_512Calls_refused() {
        BentWords x = new BentWords();
        for (int i = 0; i < 511; i++) {
            x.fill(0, 0, 1);
        }
        Check.due("call 512", x.status(0), 511);
    }

    @Sentence(promise = 0, says = "An object is used for at most 512 calls after it has been made;")
    static void t0_512Calls_waysAndImages() {
        BentWords x = new BentWords();
        x.feed(0x6e6f756e, 0x20612030, 0, 0, 0);
        x.text(0);
        for (int i = 0; i < 507; i++) {
            int answer = i % 7 == 3 ? x.image() : i % 7 == 6 ? x.back() : x.ways(40, i);
            Check.due("no message", answer, 0);
        }
        Check.due("calls 510 to 512", Check.status(x), "0 0 0");
    }
}
