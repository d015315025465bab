/** Promises 22 to 31, sentence by sentence: acts, what is refused of them, ways, the log, undo. */
public final class ActsBoundsTest {
    private static final int N = BentWords.NONE;
    private static final int H = BentWords.HIDDEN;
    private static final String SIX = "noun a 0;noun b 0;noun c 0;noun d 0;noun e 0;noun f 0";

    public static void main(String[] args) {
        Sentences.run(ActsBoundsTest.class);
    }

    // ---- promise 22

    @Sentence(promise = 22, says = "FILLED: its NUMBER.")
    static void p22_itsNumber() {
        BentWords x = Check.with(SIX);
        int[][] fills = {{0, 0, 0, 1}, {1, 5, 1, 0}, {2, 5, 2, 1}, {2, 0, 99, 1}, {0, 0, 1, 0}, {0, 5, 98, 1}};
        for (int i = 0; i < fills.length; i++) {
            int[] f = fills[i];
            Check.due("fill", x.fill(f[0], f[1], f[2]), f[3]);
            Check.due("its noun", x.hole(f[0], 0), f[1]);
            Check.due("its count", x.hole(f[0], 1), f[2]);
            Check.due("an act", x.count(3), i + 1);
            Check.due("an act", x.log(0, 0), 0);
            Check.due("its hole", x.log(0, 1), f[0]);
        }
        Check.due("no status", Check.status(x), "0 0 0");
    }

    @Sentence(promise = 22, says = "NONE: no such HOLE, NOUN, no LEXICON (STATUS 0),")
    static void p22_none_status0() {
        for (int hole : Check.beside(0, 2)) {
            Twins.refused("hole " + hole, x -> x.fill(hole, 0, 1), N, 0);
        }
        for (int noun : Check.beside(0, 1)) {
            Twins.refused("noun " + noun, x -> x.fill(0, noun, 1), N, 0);
        }
        Twins.refusedBy(Twins::bare, "no lexicon", x -> x.fill(0, 0, 1), N, 0);
        Check.due("a sixth noun", Check.with(SIX).fill(0, 5, 1), 0);
        Check.due("a seventh", Check.with(SIX).fill(0, 6, 1), N);
    }

    @Sentence(promise = 22, says = "COUNT not 0 .. 99 (1),")
    static void p22_none_status1() {
        for (int count : Check.beside(0, 99)) {
            Twins.refused("count " + count, x -> x.fill(2, 1, count), N, 1);
        }
        Check.due("0", Twins.busy().fill(2, 1, 0), 1);
        Check.due("99", Twins.busy().fill(2, 1, 99), 1);
    }

    @Sentence(promise = 22, says = "it is so (2).")
    static void p22_none_status2() {
        Twins.refused("it is so", x -> x.fill(0, 0, 1), N, 2);
        Twins.refused("it is so", x -> x.fill(1, 1, 2), N, 2);
        Check.due("another hole", Twins.busy().fill(2, 0, 1), 0);
        Check.due("another noun", Twins.busy().fill(0, 1, 1), 0);
        Check.due("another count of the same number", Twins.busy().fill(1, 1, 3), 1);
    }

    // ---- promise 23

    @Sentence(promise = 23, says = "EMPTY: which NOUN it had.")
    static void p23_whichNounItHad() {
        BentWords x = Check.with(SIX);
        int[] nouns = {0, 5, 3};
        for (int hole = 0; hole < 3; hole++) {
            x.fill(hole, nouns[hole], 99 * (hole % 2));
        }
        for (int hole = 2; hole >= 0; hole--) {
            Check.due("empty", x.empty(hole), nouns[hole]);
            Check.due("its noun", x.hole(hole, 0), N);
            Check.due("filled", x.most(4), (1 << hole) - 1);
            Check.due("an act", Check.row(x, 0), "1 " + hole + " 0");
        }
        Check.due("no status", Check.status(x), "0 0 0");
    }

    @Sentence(promise = 23, says = "NONE: no such HOLE, no LEXICON (STATUS 0),")
    static void p23_none_status0() {
        for (int hole : Check.beside(0, 2)) {
            Twins.refused("hole " + hole, x -> x.empty(hole), N, 0);
            Twins.refusedBy(Twins::bare, "no lexicon", x -> x.empty(hole), N, 0);
        }
        Twins.refusedBy(Twins::bare, "no lexicon", x -> x.empty(0), N, 0);
    }

    @Sentence(promise = 23, says = "it is so (2).")
    static void p23_none_status2() {
        Twins.refused("it is so", x -> x.empty(2), N, 2);
        BentWords x = Twins.busy();
        Check.due("once", x.empty(0), 0);
        Check.due("twice", x.empty(0), N);
        Check.due("status", Check.status(x), "1 1 2");
    }

    // ---- promise 24

    @Sentence(promise = 24, says = "STRICT (1) or not (0): how many MESSAGES can be TOLD.")
    static void p24_howManyMessages() {
        BentWords x = Check.with("noun a 0;message m #0 0;message n @0 0;message o $0;message p z");
        Check.due("two of none", x.strict(1), 1);
        Check.due("not strict", x.strict(0), 1);
        x.fill(0, 0, 1);
        Check.due("strict", x.strict(1), 2);
        Check.due("strict", x.rule(5), 1);
        Check.due("an act", Check.row(x, 0), "2 1 2");
        Check.due("not strict", x.strict(0), 4);
        Check.due("not strict", x.rule(5), 0);
        Check.due("an act", Check.row(x, 0), "2 0 4");
        Check.due("without messages", Check.with("noun a 0").strict(1), 0);
    }

    @Sentence(promise = 24, says = "NONE: no LEXICON (STATUS 0),")
    static void p24_none_status0() {
        for (int is : new int[] {0, 1, 2, -1, Integer.MAX_VALUE, Integer.MIN_VALUE}) {
            Twins.refusedBy(Twins::bare, "no lexicon", x -> x.strict(is), N, 0);
        }
    }

    @Sentence(promise = 24, says = "out of bounds (1),")
    static void p24_none_status1() {
        for (int is : Check.beside(0, 1)) {
            Twins.refused("strict(" + is + ")", x -> x.strict(is), N, 1);
        }
    }

    @Sentence(promise = 24, says = "it is so (2).")
    static void p24_none_status2() {
        Twins.refused("it is strict", x -> x.strict(1), N, 2);
        Twins.refusedBy(() -> Check.with("noun a 0"), "it is not", x -> x.strict(0), N, 2);
    }

    // ---- promise 25

    @Sentence(promise = 25, says = "A FORM is told, the TAPE (empty then; one word of 1 to 8 letters, blanks ahead, behind): how many FORMS it has.")
    static void p25_howManyForms_1To8() {
        BentWords x = Check.with("noun n 0;noun o 0");
        String[] words = {"a", "abcdefgh", " b", "c ", "  d  ", "abcdefg", "z", "e" + " ".repeat(479)};
        for (int i = 0; i < 8; i++) {
            Check.put(x, words[i]);
            Check.due("tell '" + words[i] + "'", x.tell(0, i / 2, i % 2), i + 1);
            Check.due("the tape", x.count(2), 0);
            Check.due("form", Check.form(x, 0, i / 2, i % 2), words[i].trim());
            Check.due("an act", Check.row(x, 0), "3 0 0");
        }
        Check.put(x, "a");
        Check.due("told anew", x.tell(0, 3, 1), 8);
        Check.put(x, "a");
        Check.due("of the other noun", x.tell(1, 0, 0), 1);
        Check.due("no status", Check.status(x), "0 0 0");
    }

    @Sentence(promise = 25, says = "NONE: no such NOUN (STATUS 0),")
    static void p25_none_status0() {
        for (int noun : Check.beside(0, 1)) {
            Twins.refused("noun " + noun, x -> x.tell(noun, 0, 0), N, 0);
        }
        Twins.refusedBy(Twins::bare, "no lexicon", x -> x.tell(0, 0, 0), N, 0);
    }

    @Sentence(promise = 25, says = "CASE, NUMBER, the TAPE (1),")
    static void p25_none_status1() {
        for (int kase : Check.beside(0, 3)) {
            Twins.refused("case " + kase, x -> x.tell(0, kase, 0), N, 1);
        }
        for (int number : Check.beside(0, 1)) {
            Twins.refused("number " + number, x -> x.tell(0, 0, number), N, 1);
        }
        for (String no : new String[] {"", " ", "abcdefghi", "a b", "a1", "1", "A", "a;", ";", "a" + (char) 31,
            "" + (char) 96, "" + (char) 123, "" + (char) 255, " ".repeat(480), "a".repeat(480)}) {
            Twins.refusedBy(() -> Check.put(Twins.busy(), no), "'" + no + "'", x -> x.tell(0, 0, 0), N, 1);
        }
    }

    @Sentence(promise = 25, says = "it is so (2).")
    static void p25_none_status2() {
        for (String so : new String[] {"dog", " dog", "dog ", "   dog   "}) {
            Twins.refusedBy(() -> Check.put(Twins.busy(), so), "it is so", x -> x.tell(0, 0, 0), N, 2);
        }
        BentWords x = Check.put(Twins.busy(), "dogs");
        Check.due("another text", x.tell(0, 0, 0), 1);
        BentWords y = Check.put(Twins.busy(), "dog");
        Check.due("as its default, but not told", y.tell(0, 1, 0), 2);
        BentWords z = Check.put(Twins.busy(), "dog");
        Check.due("another noun", z.tell(1, 0, 0), 3);
    }

    @Sentence(promise = 25, says = "(Of what is refused the TAPE stays.)")
    static void p25_refused_theTapeStays() {
        BentWords x = Twins.busy();
        x.tell(2, 0, 0);
        Check.due("no such noun", x.count(2), 6);
        x.tell(0, 4, 0);
        Check.due("no such case", x.count(2), 6);
        x.tell(0, 0, 2);
        Check.due("no such number", x.count(2), 6);
        Check.put(x, "dog");
        x.tell(0, 0, 0);
        Check.due("it is so", x.count(2), 3);
        Check.due("and can be told elsewhere", x.tell(0, 3, 0), 2);
        Check.put(x, "abcdefghi");
        x.tell(0, 0, 0);
        Check.due("nine letters", x.count(2), 9);
        x.end(8);
        Check.due("eight of them", x.tell(0, 0, 0), 2);
    }

    // ---- promise 26

    @Sentence(promise = 26, says = "DROPPED: how many FORMS it has.")
    static void p26_howManyForms_7To0() {
        StringBuilder all = new StringBuilder("noun n 0;noun o 0;form o 0 0 x");
        for (int i = 0; i < 8; i++) {
            all.append(";form n ").append(i / 2).append(" ").append(i % 2).append(" x");
        }
        BentWords x = Check.with(all.toString());
        for (int i = 0; i < 8; i++) {
            Check.due("drop", x.drop(0, i / 2, i % 2), 7 - i);
            Check.due("an act", Check.row(x, 0), "4 0 0");
        }
        Check.due("none is left", x.bare(0), 255);
        Check.due("the other noun's stays", x.noun(1, 2), 1);
        Check.due("no status", Check.status(x), "0 0 0");
    }

    @Sentence(promise = 26, says = "NONE: no such NOUN (STATUS 0),")
    static void p26_none_status0() {
        for (int noun : Check.beside(0, 1)) {
            Twins.refused("noun " + noun, x -> x.drop(noun, 0, 0), N, 0);
        }
        Twins.refusedBy(Twins::bare, "no lexicon", x -> x.drop(0, 0, 0), N, 0);
    }

    @Sentence(promise = 26, says = "CASE, NUMBER (1),")
    static void p26_none_status1() {
        for (int kase : Check.beside(0, 3)) {
            Twins.refused("case " + kase, x -> x.drop(0, kase, 0), N, 1);
        }
        for (int number : Check.beside(0, 1)) {
            Twins.refused("number " + number, x -> x.drop(0, 0, number), N, 1);
        }
    }

    @Sentence(promise = 26, says = "it is none (2).")
    static void p26_none_status2() {
        Twins.refused("it is none", x -> x.drop(0, 0, 1), N, 2);
        Twins.refused("it is none", x -> x.drop(1, 3, 1), N, 2);
        Check.due("told ones can be", Twins.busy().drop(0, 0, 0), 0);
        Check.due("told ones can be", Twins.busy().drop(1, 1, 0), 1);
    }

    // ---- promise 27

    @Sentence(promise = 27, says = "WAYS: MESSAGES that can be TOLD, how many.")
    static void p27_howManyMessages() {
        // fill(2, 1, 2) by -1; fill(1, 5, 2) by 3; fill(0, 2, 0) by 9
        BentWords x = Check.with(SIX + ";message m $0;message n $1;message o $2;message p z");
        Check.due("ways", x.ways(1, -1), 2);
        Check.due("ways", x.ways(1, 3), 3);
        Check.due("ways", x.ways(1, 9), 4);
        Check.due("the same again", x.ways(1, 9), 4);
        Check.due("acts", x.count(3), 3);
        Check.due("without messages", Check.with(SIX).ways(40, 5), 0);
        Check.due("all can be told", x.rule(6), 15);
    }

    @Sentence(promise = 27, says = "WAYS: MESSAGES that can be TOLD, how many.")
    static void p27_theTapeStays() {
        BentWords x = Check.with("noun a 0");
        Check.put(x, "word");
        for (int i = 0; i < 10; i++) {
            x.ways(40, i);
        }
        Check.due("the tape", x.count(2), 4);
        Check.due("it can be told", x.tell(0, 0, 0) > 0, true);
        Check.due("as it was", Check.form(x, 0, 0, 0), "word");
    }

    @Sentence(promise = 27, says = "NONE: no LEXICON, out of bounds.")
    static void p27_none() {
        long[] seeds = {0, 1, -1, Long.MAX_VALUE, Long.MIN_VALUE};
        for (long seed : seeds) {
            for (int n : Check.beside(1, 40)) {
                Twins.leaves("ways(" + n + ", " + seed + ")", x -> x.ways(n, seed), N);
            }
            Twins.leavesOn(Twins::bare, "no lexicon", x -> x.ways(1, seed), N);
            Twins.leavesOn(Twins::bare, "no lexicon", x -> x.ways(40, seed), N);
            Check.due("1", Twins.busy().ways(1, seed) >= 0, true);
            Check.due("40", Twins.busy().ways(40, seed) >= 0, true);
        }
    }

    // ---- promise 28

    @Sentence(promise = 28, says = "STATUS.")
    static void p28_eachOneAlone() {
        BentWords x = Check.with("noun a 0");
        Check.due("at first", Check.status(x), "0 0 0");
        for (int i = 1; i <= 100; i++) {
            x.fill(-1, 0, 0);
        }
        Check.due("100 of one", Check.status(x), "100 0 0");
        x.strict(7);
        x.strict(7);
        x.strict(0);
        Check.due("all three", Check.status(x), "100 2 1");
        Check.due("what is no act is not counted", x.ways(0, 0) + x.would(9, 9, 9) + x.perform(9)
            + x.undo() + x.back() + x.text(7), 6 * N);
        Check.due("all three", Check.status(x), "100 2 1");
    }

    @Sentence(promise = 28, says = "NONE: no such what.")
    static void p28_none() {
        for (int what : Check.beside(0, 2)) {
            Twins.leaves("status(" + what + ")", x -> x.status(what), N);
            Twins.leavesOn(BentWords::new, "status(" + what + ")", x -> x.status(what), N);
        }
    }

    // ---- promise 29

    @Sentence(promise = 29, says = "The latest ACT is UNDONE: how many still can be.")
    static void p29_eachSortOfAct() {
        BentWords x = Twins.busy();
        // the latest first: drop(0, 0, 1), strict(1), tell(1, 0, 1), fill(1, 1, 2), fill(0, 0, 1)
        Check.due("drop", x.undo(), 4);
        Check.due("dogs again", Check.form(x, 0, 0, 1), "dogs");
        Check.due("strict", x.undo(), 3);
        Check.due("not strict", x.rule(5), 0);
        Check.due("tell", x.undo(), 2);
        Check.due("none", x.byDefault(1, 0, 1), 4);
        Check.due("the tape stays", x.count(2), 6);
        Check.due("fill", x.undo(), 1);
        Check.due("empty", x.hole(1, 0), N);
        Check.due("fill", x.undo(), 0);
        Check.due("empty", x.hole(0, 0), N);
        Check.due("no log", x.count(3), 0);
    }

    @Sentence(promise = 29, says = "The latest ACT is UNDONE: how many still can be.")
    static void p29_fillAnewTellAnewEmpty() {
        BentWords x = Check.with("noun a 0;noun b 0;form a 0 0 x");
        x.fill(2, 1, 99);
        x.fill(2, 0, 0);
        x.empty(2);
        Check.put(x, "y");
        x.tell(0, 0, 0);
        x.undo();
        Check.due("as it was told", Check.form(x, 0, 0, 0), "x");
        x.undo();
        Check.due("filled again", x.hole(2, 1), 0);
        x.undo();
        Check.due("filled as ahead", x.hole(2, 0), 1);
        Check.due("filled as ahead", x.hole(2, 1), 99);
    }

    @Sentence(promise = 29, says = "The latest ACT is UNDONE: how many still can be.")
    static void p29_40AndNoMore_alsoBehindOthers() {
        BentWords x = Check.with("noun a 0");
        for (int i = 0; i < 60; i++) {
            x.fill(0, 0, i);
        }
        for (int i = 39; i >= 20; i--) {
            Check.due("undo", x.undo(), i);
        }
        for (int i = 0; i < 10; i++) {
            x.fill(1, 0, i);
        }
        Check.due("20 and 10", x.count(4), 30);
        for (int i = 29; i >= 0; i--) {
            Check.due("undo", x.undo(), i);
        }
        Check.due("no more", x.undo(), N);
        Check.due("the 20th count", x.hole(0, 1), 19);
        Check.due("hole 1", x.hole(1, 0), N);
        Check.due("log", x.count(3), 20);
    }

    @Sentence(promise = 29, says = "NONE: none.")
    static void p29_none() {
        Twins.leavesOn(BentWords::new, "no lexicon", x -> x.undo(), N);
        Twins.leavesOn(() -> Check.with(Twins.BUSY), "no act", x -> x.undo(), N);
        Twins.leavesOn(() -> {
            BentWords x = Twins.busy();
            x.back();
            return x;
        }, "behind back", x -> x.undo(), N);
        Twins.leavesOn(() -> {
            BentWords x = Check.put(Twins.busy(), Twins.BUSY);
            x.text(0);
            return x;
        }, "a new lexicon", x -> x.undo(), N);
        BentWords x = Check.with("noun a 0");
        x.empty(0);
        x.strict(0);
        Check.due("what is refused is no act", x.undo(), N);
    }

    // ---- promise 30

    @Sentence(promise = 30, says = "The LOG, the latest (i 0), the one ahead of it (1) ..: 0 sort, 1 number, 2 MESSAGES.")
    static void p30_latestFirst() {
        BentWords x = Twins.busy();
        String[] rows = {"4 0 1", "2 1 1", "3 1 2", "0 1 2", "0 0 1"};
        for (int i = 0; i < 5; i++) {
            Check.due("row " + i, Check.row(x, i), rows[i]);
        }
    }

    @Sentence(promise = 30, says = "The LOG, the latest (i 0), the one ahead of it (1) ..: 0 sort, 1 number, 2 MESSAGES.")
    static void p30_full_undoneAsItWas() {
        BentWords x = Check.with(SIX);
        for (int i = 0; i < 100; i++) {
            x.fill(i % 3, i % 5, i);
        }
        for (int undone = 0; undone <= 40; undone++) {
            int acts = 100 - undone;
            Check.due("rows", x.count(3), 60);
            Check.due("the latest", x.log(0, 1), (acts - 1) % 3);
            Check.due("the last one", x.log(59, 1), (acts - 60) % 3);
            Check.due("no more", x.log(60, 1), H);
            Check.due("undo", x.undo(), undone < 40 ? 39 - undone : N);
        }
    }

    @Sentence(promise = 30, says = "HIDDEN: no such ones.")
    static void p30_hidden() {
        for (int i : Check.beside(0, 4)) {
            for (int what = 0; what < 3; what++) {
                int w = what;
                Twins.leaves("i " + i, x -> x.log(i, w), H);
            }
        }
        for (int what : Check.beside(0, 2)) {
            Twins.leaves("what " + what, x -> x.log(0, what), H);
            Twins.leaves("what " + what, x -> x.log(4, what), H);
        }
        Twins.leaves("the last one", x -> x.log(4, 2), 1);
        Twins.leavesOn(BentWords::new, "no lexicon", x -> x.log(0, 0), H);
        Twins.leavesOn(() -> Check.with("noun a 0"), "no act", x -> x.log(0, 0), H);
    }

    // ---- promise 31

    @Sentence(promise = 31, says = "WOULD (bits).")
    static void p31_bits() {
        BentWords x = Check.with(SIX + ";message m $0;message n =0 1;message o #2 0;message p z");
        Check.due("one", x.would(1, 0, 0), 8);
        Check.due("two", x.would(2, 5, 99), 8 + 4);
        x.fill(1, 0, 1);
        x.fill(2, 0, 1);
        Check.due("all", x.would(0, 5, 1), 15);
        Check.due("not n", x.would(0, 5, 0), 13);
        Check.due("it is not filled", x.hole(0, 0), N);
        Check.due("another count of the same hole", x.would(2, 0, 2), 8 + 4);
        Check.due("as it was", x.hole(2, 1), 1);
        Check.due("without messages", Check.with("noun a 0").would(0, 0, 1), 0);
    }

    @Sentence(promise = 31, says = "NONE: as FILLED would be refused.")
    static void p31_none() {
        for (int hole : Check.beside(0, 2)) {
            Twins.leaves("hole " + hole, x -> x.would(hole, 0, 1), N);
        }
        for (int noun : Check.beside(0, 1)) {
            Twins.leaves("noun " + noun, x -> x.would(2, noun, 1), N);
        }
        for (int count : Check.beside(0, 99)) {
            Twins.leaves("count " + count, x -> x.would(2, 1, count), N);
        }
        Twins.leaves("it is so", x -> x.would(0, 0, 1), N);
        Twins.leaves("it is so", x -> x.would(1, 1, 2), N);
        Twins.leaves("just inside", x -> x.would(2, 1, 99), 4);
        Twins.leaves("just inside", x -> x.would(2, 1, 0), 4);
        Twins.leavesOn(Twins::bare, "no lexicon", x -> x.would(0, 0, 1), N);
    }
}
