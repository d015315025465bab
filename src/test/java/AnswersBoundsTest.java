/** Promises 6 to 21, sentence by sentence: what is asked. */
public final class AnswersBoundsTest {
    private static final int N = BentWords.NONE;
    private static final String SIX = "noun a 0;noun b 0;noun c 0;noun d 0;noun e 0;noun f 0";

    /** A full message without holes, with one behind it that asks all of them. */
    private static final String NEIGHBOURS = "noun a 0;message m a b c d e f g h;message n #0 3 @1 2 %2 1";

    public static void main(String[] args) {
        Sentences.run(AnswersBoundsTest.class);
    }

    /** Six nouns and four messages; each of the six has all its eight forms. */
    private static BentWords full() {
        BentWords x = Check.with(SIX + ";message m @0 0 @0 1 @0 2 @0 3 @1 0 @1 1 @1 2 @1 3;"
            + "message n #0 0;message o $2;message p x");
        for (int i = 0; i < 48; i++) {
            x.end(0);
            x.feed(('a' + i % 8) << 8 | 'a' + i / 8, 0, 0, 0, 0);
            Check.due("tell", x.tell(i / 8, i / 2 % 4, i % 2), i % 8 + 1);
        }
        return x;
    }

    // ---- promise 6

    @Sentence(promise = 6, says = "0 NOUNS, 1 MESSAGES, 2 ARTICLES, 3 PRONOUNS,")
    static void p06_leastAndMost() {
        BentWords x = Check.with("noun a 0");
        int[] least = {1, 0, 0, 0};
        for (int what = 0; what < 4; what++) {
            Check.due("rule(" + what + ")", x.rule(what), least[what]);
        }
        Check.due("six nouns", Check.with(SIX).rule(0), 6);
        Check.due("four messages",
            Check.with("noun a 0;message m x;message n x;message o x;message p x").rule(1), 4);
        for (int sort = 0; sort < 2; sort++) {
            StringBuilder all = new StringBuilder("noun a 0");
            for (int i = 0; i < 24; i++) {
                all.append(sort == 0 ? ";article" : ";pronoun").append(i / 6).append(" ")
                    .append(i / 3 % 2).append(" ").append(i % 3).append("x");
            }
            BentWords y = Check.with(all.toString());
            Check.due("24 of these", y.rule(2 + sort), 24);
            Check.due("none of those", y.rule(3 - sort), 0);
        }
    }

    @Sentence(promise = 6, says = "4 FORMS now,")
    static void p06_formsNow_0To48() {
        BentWords x = Check.with("noun a 0;noun b 0;form a 0 0 x");
        Check.due("one", x.rule(4), 1);
        x.drop(0, 0, 0);
        Check.due("none", x.rule(4), 0);
        x.undo();
        Check.due("one again", x.rule(4), 1);
        Check.due("48", full().rule(4), 48);
    }

    @Sentence(promise = 6, says = "5 whether STRICT (1, 0),")
    static void p06_strict() {
        BentWords x = Check.with("noun a 0");
        Check.due("not", x.rule(5), 0);
        x.strict(1);
        Check.due("strict", x.rule(5), 1);
        x.strict(0);
        Check.due("not", x.rule(5), 0);
    }

    @Sentence(promise = 6, says = "6 MESSAGES that can be TOLD (bits).")
    static void p06_canBeTold_bits() {
        BentWords x = Check.with("noun a 0;message m $0;message n $1;message o $2;message p =0 1 $2");
        Check.due("none", x.rule(6), 0);
        x.fill(2, 0, 1);
        Check.due("o", x.rule(6), 4);
        x.fill(0, 0, 1);
        Check.due("m, o", x.rule(6), 5);
        x.fill(1, 0, 1);
        Check.due("all", x.rule(6), 15);
        Check.due("without messages", Check.with("noun a 0").rule(6), 0);
    }

    @Sentence(promise = 6, says = "NONE: no LEXICON, no such what.")
    static void p06_none() {
        for (int what : Check.beside(0, 6)) {
            Twins.leaves("rule(" + what + ")", x -> x.rule(what), N);
            Twins.leavesOn(Twins::bare, "rule(" + what + ")", x -> x.rule(what), N);
        }
        for (int what = 0; what <= 6; what++) {
            int w = what;
            Twins.leavesOn(Twins::bare, "rule(" + w + ")", x -> x.rule(w), N);
        }
    }

    // ---- promise 7

    @Sentence(promise = 7, says = "Of a NOUN: its KIND (0),")
    static void p07_kind_0To2() {
        BentWords x = Check.with("noun a 2;noun b 1;noun c 0;noun d 2;noun e 1;noun f 0");
        for (int noun = 0; noun < 6; noun++) {
            Check.due("kind", x.noun(noun, 0), 2 - noun % 3);
        }
    }

    @Sentence(promise = 7, says = "how many letters its NAME has (1),")
    static void p07_letters_1To8() {
        BentWords x = Check.with("noun a 0;noun ab 0;noun abcdefg 0;noun abcdefgh 0;form a 0 0 xyz");
        int[] want = {1, 2, 7, 8};
        for (int noun = 0; noun < 4; noun++) {
            Check.due("letters", x.noun(noun, 1), want[noun]);
        }
    }

    @Sentence(promise = 7, says = "FORMS told (2).")
    static void p07_formsTold_0To8() {
        BentWords x = full();
        Check.due("eight of the first", x.noun(0, 2), 8);
        Check.due("eight of the last", x.noun(5, 2), 8);
        BentWords y = Check.with(SIX + ";form f 3 1 x");
        Check.due("none", y.noun(0, 2), 0);
        Check.due("one", y.noun(5, 2), 1);
        y.drop(5, 3, 1);
        Check.due("none now", y.noun(5, 2), 0);
    }

    @Sentence(promise = 7, says = "NoSuchElementException: no such ones.")
    static void p07_throws() {
        for (int noun : Check.beside(0, 1)) {
            Twins.leaves("noun(" + noun + ", 0)", x -> Check.nounThrows(x, noun, 0) ? 1 : 0, 1);
            Twins.leaves("noun(" + noun + ", 9)", x -> Check.nounThrows(x, noun, 9) ? 1 : 0, 1);
        }
        for (int what : Check.beside(0, 2)) {
            Twins.leaves("noun(1, " + what + ")", x -> Check.nounThrows(x, 1, what) ? 1 : 0, 1);
        }
        for (int what = 0; what < 3; what++) {
            int w = what;
            Twins.leavesOn(Twins::bare, "noun(0, " + w + ")", x -> Check.nounThrows(x, 0, w) ? 1 : 0, 1);
            Check.due("the last noun is one", Check.nounThrows(Twins.busy(), 1, w), false);
        }
        Check.due("a sixth", Check.nounThrows(Check.with(SIX), 5, 0), false);
        Check.due("a seventh", Check.nounThrows(Check.with(SIX), 6, 0), true);
    }

    // ---- promise 8

    @Sentence(promise = 8, says = "FORM of a NOUN (with DEFAULTS): how many letters (i NONE),")
    static void p08_letters_1To8() {
        BentWords x = Check.with("noun n 0;form n 0 0 abcdefgh;form n 0 1 a;noun abcdefgh 1");
        Check.due("eight", x.form(0, 0, 0, N), 8);
        Check.due("one", x.form(0, 0, 1, N), 1);
        Check.due("by default", x.form(0, 3, 0, N), 8);
        Check.due("by default", x.form(0, 3, 1, N), 1);
        Check.due("its name", x.form(1, 3, 1, N), 8);
    }

    @Sentence(promise = 8, says = "the i-th as a byte.")
    static void p08_theIth() {
        BentWords x = Check.with("noun n 0;form n 3 1 abcdefgz;form n 0 0 q");
        int[] want = {97, 98, 99, 100, 101, 102, 103, 122};
        for (int i = 0; i < 8; i++) {
            Check.due("letter " + i, x.form(0, 3, 1, i), want[i]);
        }
        Check.due("behind the last", x.form(0, 3, 1, 8), N);
        Check.due("the only one", x.form(0, 0, 0, 0), 113);
        Check.due("behind it", x.form(0, 0, 0, 1), N);
    }

    @Sentence(promise = 8, says = "NONE: no such ones.")
    static void p08_none() {
        for (int i : Check.beside(-1, 2)) {
            Twins.leaves("form(0, 0, 0, " + i + ")", x -> x.form(0, 0, 0, i), N);
        }
        for (int far : Check.beside(0, 1)) {
            Twins.leaves("noun " + far, x -> x.form(far, 0, 0, N), N);
            Twins.leaves("noun " + far, x -> x.form(far, 0, 0, 0), N);
            Twins.leaves("number " + far, x -> x.form(0, 0, far, N), N);
        }
        for (int kase : Check.beside(0, 3)) {
            Twins.leaves("case " + kase, x -> x.form(0, kase, 0, N), N);
        }
        Check.due("just inside", Twins.busy().form(1, 3, 1, N), 4);
        Twins.leavesOn(Twins::bare, "no lexicon", x -> x.form(0, 0, 0, N), N);
    }

    // ---- promise 9

    @Sentence(promise = 9, says = "DEFAULT of that (0 .. 4).")
    static void p09_0To4() {
        BentWords x = Check.with("noun n 0;form n 2 1 a;form n 0 1 b;form n 2 0 c;form n 0 0 d");
        int[][] drops = {{2, 1}, {0, 1}, {2, 0}, {0, 0}};
        for (int by = 0; by < 4; by++) {
            Check.due("byDefault", x.byDefault(0, 2, 1), by);
            x.drop(0, drops[by][0], drops[by][1]);
        }
        Check.due("its name", x.byDefault(0, 2, 1), 4);
    }

    @Sentence(promise = 9, says = "NONE: no such ones.")
    static void p09_none() {
        for (int far : Check.beside(0, 1)) {
            Twins.leaves("noun " + far, x -> x.byDefault(far, 0, 0), N);
            Twins.leaves("number " + far, x -> x.byDefault(0, 0, far), N);
        }
        for (int kase : Check.beside(0, 3)) {
            Twins.leaves("case " + kase, x -> x.byDefault(0, kase, 0), N);
        }
        Twins.leaves("just inside", x -> x.byDefault(1, 3, 1), 1);
        Twins.leavesOn(Twins::bare, "no lexicon", x -> x.byDefault(0, 0, 0), N);
    }

    // ---- promise 10

    @Sentence(promise = 10, says = "ARTICLE (pronoun false), PRONOUN: how many letters (i NONE; 0: it is left out),")
    static void p10_letters_0To8() {
        BentWords x = Check.with("noun n 0;article 0 0 0 a;article 3 1 2 abcdefgh;pronoun 0 0 0 abc");
        Check.due("one", x.word(false, 0, 0, 0, N), 1);
        Check.due("eight", x.word(false, 3, 1, 2, N), 8);
        Check.due("three", x.word(true, 0, 0, 0, N), 3);
        Check.due("by kind 0", x.word(true, 0, 0, 2, N), 3);
        Check.due("left out", x.word(false, 3, 1, 0, N), 0);
        Check.due("left out", x.word(false, 3, 1, 1, N), 0);
        Check.due("left out", x.word(true, 3, 1, 2, N), 0);
    }

    @Sentence(promise = 10, says = "the i-th.")
    static void p10_theIth() {
        BentWords x = Check.with("noun n 0;article 3 1 2 abcdefgz;pronoun 3 1 0 q");
        int[] want = {97, 98, 99, 100, 101, 102, 103, 122};
        for (int i = 0; i < 8; i++) {
            Check.due("letter " + i, x.word(false, 3, 1, 2, i), want[i]);
        }
        Check.due("behind the last", x.word(false, 3, 1, 2, 8), N);
        Check.due("by kind 0", x.word(true, 3, 1, 2, 0), 113);
        Check.due("behind it", x.word(true, 3, 1, 2, 1), N);
    }

    @Sentence(promise = 10, says = "NONE: no such ones, no LEXICON.")
    static void p10_none() {
        for (boolean pronoun : new boolean[] {false, true}) {
            for (int kase : Check.beside(0, 3)) {
                Twins.leaves("case " + kase, x -> x.word(pronoun, kase, 0, 0, N), N);
            }
            for (int number : Check.beside(0, 1)) {
                Twins.leaves("number " + number, x -> x.word(pronoun, 0, number, 0, N), N);
            }
            for (int kind : Check.beside(0, 2)) {
                Twins.leaves("kind " + kind, x -> x.word(pronoun, 0, 0, kind, N), N);
            }
            for (int i : Check.beside(-1, pronoun ? 1 : 2)) {
                Twins.leaves("i " + i, x -> x.word(pronoun, 0, 0, 0, i), N);
            }
            Twins.leaves("no letter of what is left out", x -> x.word(pronoun, 3, 1, 2, 0), N);
            Twins.leavesOn(Twins::bare, "no lexicon", x -> x.word(pronoun, 0, 0, 0, N), N);
            Twins.leavesOn(Twins::bare, "no lexicon", x -> x.word(pronoun, 0, 0, 0, 0), N);
        }
        Twins.leaves("just inside", x -> x.word(false, 3, 1, 2, N), 0);
    }

    // ---- promise 11

    @Sentence(promise = 11, says = "Of a HOLE: its NOUN (0), COUNT (1), NUMBER (2).")
    static void p11_eachHole() {
        BentWords x = Check.with(SIX);
        int[][] fills = {{0, 1, 0}, {5, 0, 1}, {3, 99, 1}};
        for (int hole = 0; hole < 3; hole++) {
            x.fill(hole, fills[hole][0], fills[hole][1]);
        }
        for (int hole = 0; hole < 3; hole++) {
            for (int what = 0; what < 3; what++) {
                Check.due("hole(" + hole + ", " + what + ")", x.hole(hole, what), fills[hole][what]);
            }
        }
    }

    @Sentence(promise = 11, says = "NONE: it is EMPTY, no such ones, no LEXICON.")
    static void p11_none() {
        for (int what = 0; what < 3; what++) {
            int w = what;
            Twins.leaves("empty", x -> x.hole(2, w), N);
            Twins.leavesOn(Twins::bare, "no lexicon", x -> x.hole(0, w), N);
            for (int hole : Check.beside(0, 2)) {
                Twins.leaves("hole " + hole, x -> x.hole(hole, w), N);
            }
        }
        for (int what : Check.beside(0, 2)) {
            Twins.leaves("what " + what, x -> x.hole(0, what), N);
            Twins.leaves("what " + what + " of an empty one", x -> x.hole(2, what), N);
        }
    }

    // ---- promise 12

    @Sentence(promise = 12, says = "Of a MESSAGE: how many ITEMS (0), ASKED (1),")
    static void p12_itemsAndAsked() {
        BentWords x = Check.with("noun a 0;message m x;message n $0 $1 $2 $0 $1 $2 a b;message o =0 2");
        int[] items = {1, 8, 1};
        int[] asked = {0, 7, 5};
        for (int message = 0; message < 3; message++) {
            Check.due("items", x.message(message, 0), items[message]);
            Check.due("asked", x.message(message, 1), asked[message]);
        }
        Check.due("not by the next message", Check.with(NEIGHBOURS).message(0, 1), 0);
    }

    @Sentence(promise = 12, says = "whether it can be TOLD (2; 1, 0),")
    static void p12_canBeTold() {
        BentWords x = Check.with("noun a 0;message m $0");
        Check.due("it can't", x.message(0, 2), 0);
        x.fill(0, 0, 0);
        Check.due("it can", x.message(0, 2), 1);
    }

    @Sentence(promise = 12, says = "by how many bytes (3; NONE: it can't).")
    static void p12_bytes() {
        BentWords x = Check.with("noun abcdefgh 0;article 0 0 0 ijklmnop;message m %0 0;message n $0;"
            + "message o @0 0 @0 0 @0 0 @0 0 @0 0 @0 0 @0 0 @0 0;message p abcdefgh x");
        Check.due("it can't", x.message(0, 3), N);
        Check.due("without a hole", x.message(3, 3), 10);
        x.fill(0, 0, 1);
        Check.due("none", x.message(0, 3), 0);
        Check.due("one", x.message(1, 3), 1);
        Check.due("the most there are: 16 words, 15 blanks", x.message(2, 3), 16 * 8 + 15);
        x.fill(0, 0, 10);
        Check.due("two", x.message(1, 3), 2);
    }

    @Sentence(promise = 12, says = "NONE: no such ones.")
    static void p12_none() {
        for (int message : Check.beside(0, 3)) {
            for (int what = 0; what < 4; what++) {
                int w = what;
                Twins.leaves("message " + message, x -> x.message(message, w), N);
            }
        }
        for (int what : Check.beside(0, 3)) {
            Twins.leaves("what " + what, x -> x.message(3, what), N);
        }
        Twins.leavesOn(Twins::bare, "no lexicon", x -> x.message(0, 0), N);
        Twins.leavesOn(() -> Check.with("noun a 0"), "no message", x -> x.message(0, 0), N);
    }

    // ---- promise 13

    @Sentence(promise = 13, says = "The i-th byte of a MESSAGE as it is TOLD.")
    static void p13_firstToLast() {
        BentWords x = Check.with("noun abcdefgh 0;article 0 0 0 ijklmnop;"
            + "message m @0 0 @0 0 @0 0 @0 0 @0 0 @0 0 @0 0 @0 0;message n z");
        x.fill(0, 0, 1);
        String word = "ijklmnop abcdefgh ";
        for (int i = 0; i < 143; i++) {
            Check.due("byte " + i, x.told(0, i), word.charAt(i % 18));
        }
        Check.due("behind the last", x.told(0, 143), N);
        Check.due("the only one", x.told(1, 0), 'z');
        Check.due("behind it", x.told(1, 1), N);
    }

    @Sentence(promise = 13, says = "NONE: no such ones, it can't be.")
    static void p13_none() {
        for (int message : Check.beside(0, 3)) {
            Twins.leaves("message " + message, x -> x.told(message, 0), N);
        }
        for (int i : Check.beside(0, 3)) {
            Twins.leaves("i " + i, x -> x.told(2, i), N);
        }
        Twins.leaves("the last one", x -> x.told(2, 3), 'x');
        for (int message : new int[] {0, 1, 3}) {
            Twins.leaves("it can't be", x -> x.told(message, 0), N);
            Twins.leaves("it can't be", x -> x.told(message, N), N);
        }
        Twins.leavesOn(Twins::bare, "no lexicon", x -> x.told(0, 0), N);
        BentWords y = Check.with("noun a 0;message m %0 0");
        y.fill(0, 0, 1);
        Check.due("told by no bytes", y.told(0, 0), N);
    }

    // ---- promise 14

    @Sentence(promise = 14, says = "WHY: the ITEM (0), the HOLE (1), what (2).")
    static void p14_itemHoleWhat() {
        BentWords x = Check.with("noun a 0;message m a b c d e f g $2;message n $0");
        Check.due("the last item, the last hole", Check.why(x, 0), "7 2 0");
        Check.due("the first item, the first hole", Check.why(x, 1), "0 0 0");
        BentWords y = Check.with("noun a 0;message m %0 0");
        y.fill(0, 0, 1);
        y.strict(1);
        Check.due("what 4", y.why(0, 2), 4);
    }

    @Sentence(promise = 14, says = "NONE: it can be TOLD, no such ones.")
    static void p14_none() {
        for (int what = 0; what < 3; what++) {
            int w = what;
            Twins.leaves("it can be told", x -> x.why(2, w), N);
            for (int message : Check.beside(0, 3)) {
                Twins.leaves("message " + message, x -> x.why(message, w), N);
            }
            Twins.leavesOn(Twins::bare, "no lexicon", x -> x.why(0, w), N);
        }
        for (int what : Check.beside(0, 2)) {
            Twins.leaves("what " + what, x -> x.why(0, what), N);
            Twins.leaves("what " + what + " of what can be told", x -> x.why(2, what), N);
        }
    }

    // ---- promise 15

    @Sentence(promise = 15, says = "MISSING: how many (i NONE);")
    static void p15_howMany_0To8() {
        BentWords x = Check.with("noun a 0;message m #0 0 @0 0 #0 0 @0 0 #0 1 @0 1 #0 1 @0 1;message n x");
        Check.due("empty", x.missing(0, N, 0), 0);
        x.fill(0, 0, 1);
        Check.due("eight", x.missing(0, N, 0), 8);
        for (int what : Check.beside(0, 3)) {
            Check.due("whatever what is", x.missing(0, N, what), 8);
        }
        Check.due("none", x.missing(1, N, 0), 0);
        Check.put(x, "x");
        x.tell(0, 0, 0);
        Check.due("case 1 alone", x.missing(0, N, 0), 4);
        BentWords y = Check.with(NEIGHBOURS);
        y.fill(0, 0, 1);
        Check.due("not of the next message", y.missing(0, N, 0), 0);
        Check.due("not of the next message", y.missing(0, 0, 0), N);
        Check.due("of that one", y.missing(1, N, 0), 1);
    }

    @Sentence(promise = 15, says = "of the i-th NOUN (0), CASE (1), NUMBER (2), DEFAULT (3).")
    static void p15_ofTheIth() {
        BentWords x = Check.with("noun a 0;noun b 0;form b 0 1 x;message m #0 0 #1 0 @1 3 @0 3");
        x.fill(0, 0, 1);
        x.fill(1, 1, 2);
        int[][] want = {{0, 0, 0, 4}, {1, 3, 1, 1}, {0, 3, 0, 4}};
        for (int i = 0; i < 3; i++) {
            for (int what = 0; what < 4; what++) {
                Check.due("missing(0, " + i + ", " + what + ")", x.missing(0, i, what), want[i][what]);
            }
        }
    }

    @Sentence(promise = 15, says = "NONE: no such ones.")
    static void p15_none() {
        // of message 0 one is missing: a cat in case 1, number 1
        Twins.leaves("the only one", x -> x.missing(0, 0, 0), 1);
        for (int i : Check.beside(-1, 0)) {
            Twins.leaves("i " + i, x -> x.missing(0, i, 0), N);
        }
        for (int what : Check.beside(0, 3)) {
            Twins.leaves("what " + what, x -> x.missing(0, 0, what), N);
        }
        for (int message : Check.beside(0, 3)) {
            Twins.leaves("message " + message, x -> x.missing(message, N, 0), N);
            Twins.leaves("message " + message, x -> x.missing(message, 0, 0), N);
        }
        Twins.leaves("none is missing", x -> x.missing(3, 0, 0), N);
        Twins.leavesOn(Twins::bare, "no lexicon", x -> x.missing(0, N, 0), N);
    }

    // ---- promise 16

    @Sentence(promise = 16, says = "BARE (bits).")
    static void p16_bits_0To255() {
        Check.due("all told", full().bare(0), 0);
        Check.due("all told", full().bare(5), 0);
        BentWords x = Check.with(SIX + ";form f 0 0 x;form f 3 1 x");
        Check.due("none told", x.bare(0), 255);
        Check.due("the lowest and the highest told", x.bare(5), 126);
    }

    @Sentence(promise = 16, says = "NONE: no such NOUN.")
    static void p16_none() {
        for (int noun : Check.beside(0, 1)) {
            Twins.leaves("bare(" + noun + ")", x -> x.bare(noun), N);
        }
        Check.due("a seventh", Check.with(SIX).bare(6), N);
        Twins.leavesOn(Twins::bare, "no lexicon", x -> x.bare(0), N);
    }

    // ---- promise 17

    @Sentence(promise = 17, says = "FITS (bits).")
    static void p17_bits_0To63() {
        BentWords x = full();
        for (int hole = 0; hole < 3; hole++) {
            Check.due("all fit", x.fits(0, hole), 63);
        }
        x.drop(5, 3, 1);
        Check.due("the last not by two", x.fits(0, 0), 31);
        x.undo();
        x.drop(0, 3, 0);
        Check.due("the first not by one", x.fits(0, 1), 62);
        Check.due("a hole that is not asked", x.fits(0, 2), 63);
        BentWords y = Check.with(SIX + ";message m #2 0");
        Check.due("none fits", y.fits(0, 2), 0);
        Check.due("all fit", y.fits(0, 0), 63);
        Check.due("not by the next message", Check.with(NEIGHBOURS).fits(0, 0), 1);
        Check.due("by that one", Check.with(NEIGHBOURS).fits(1, 0), 0);
    }

    @Sentence(promise = 17, says = "NONE: no such MESSAGE, HOLE.")
    static void p17_none() {
        for (int message : Check.beside(0, 3)) {
            Twins.leaves("message " + message, x -> x.fits(message, 0), N);
        }
        for (int hole : Check.beside(0, 2)) {
            Twins.leaves("hole " + hole, x -> x.fits(0, hole), N);
        }
        Twins.leaves("just inside", x -> x.fits(3, 2), 3);
        Twins.leavesOn(Twins::bare, "no lexicon", x -> x.fits(0, 0), N);
    }

    // ---- promise 18

    @Sentence(promise = 18, says = "NEEDS.")
    static void p18_0To48() {
        BentWords x = full();
        Check.due("all told", x.needs(0), 0);
        x.drop(5, 3, 1);
        Check.due("one", x.needs(0), 1);
        Check.due("of another case", x.needs(1), 0);
        Check.due("48", Check.with(SIX + ";message m #0 0 #0 1 #0 2 #0 3").needs(0), 48);
        Check.due("not by the next message", Check.with(NEIGHBOURS).needs(0), 0);
        Check.due("by that one", Check.with(NEIGHBOURS).needs(1), 4);
    }

    @Sentence(promise = 18, says = "NONE: no such MESSAGE.")
    static void p18_none() {
        for (int message : Check.beside(0, 3)) {
            Twins.leaves("needs(" + message + ")", x -> x.needs(message), N);
        }
        Twins.leaves("just inside", x -> x.needs(3), 0);
        Twins.leavesOn(Twins::bare, "no lexicon", x -> x.needs(0), N);
    }

    // ---- promise 19

    @Sentence(promise = 19, says = "ALIKE: unlike FORMS.")
    static void p19_1To8() {
        Check.due("eight", full().alike(0), 8);
        Check.due("eight", full().alike(5), 8);
        Check.due("its name alone", Check.with(SIX).alike(5), 1);
        Check.due("told as the name", Check.with("noun n 0;form n 2 1 n").alike(0), 1);
        Check.due("and one more", Check.with("noun n 0;form n 2 1 nn").alike(0), 2);
        Check.due("by the last letter alone", Check.with("noun abcdefgh 0;form abcdefgh 3 1 abcdefgi").alike(0), 2);
    }

    @Sentence(promise = 19, says = "NONE: no such NOUN.")
    static void p19_none() {
        for (int noun : Check.beside(0, 1)) {
            Twins.leaves("alike(" + noun + ")", x -> x.alike(noun), N);
        }
        Twins.leavesOn(Twins::bare, "no lexicon", x -> x.alike(0), N);
    }

    // ---- promise 20

    @Sentence(promise = 20, says = "What the TAPE (which stays) can be of a NOUN (bits).")
    static void p20_bits_theTapeStays() {
        BentWords x = Check.with("noun abcdefgh 0;noun b 1;form b 3 1 q");
        Check.put(x, "abcdefgh");
        Check.due("eight letters", x.canBe(0), 255);
        Check.due("the tape stays", x.count(2), 8);
        Check.due("asked again", x.canBe(0), 255);
        Check.put(x, "abcdefgi");
        Check.due("another last letter", x.canBe(0), 0);
        Check.put(x, "abcdefg");
        Check.due("a letter less", x.canBe(0), 0);
        Check.put(x, "abcdefghi");
        Check.due("a letter more", x.canBe(0), 0);
        Check.put(x, "q");
        Check.due("the highest bit", x.canBe(1), 128);
        Check.put(x, "b");
        Check.due("all but that", x.canBe(1), 127);
        Check.put(x, "");
        Check.due("an empty tape", x.canBe(1), 0);
        Check.put(x, " b ");
        Check.due("blanks ahead, behind", x.canBe(1), 127);
        Check.put(x, "b".repeat(480));
        Check.due("a full tape", x.canBe(1), 0);
        Check.put(x, "b b");
        Check.due("two words", x.canBe(1), 0);
    }

    @Sentence(promise = 20, says = "NONE: no such NOUN.")
    static void p20_none() {
        for (int noun : Check.beside(0, 1)) {
            Twins.leaves("canBe(" + noun + ")", x -> x.canBe(noun), N);
        }
        Twins.leaves("just inside", x -> x.canBe(1), 0);
        Twins.leavesOn(Twins::bare, "no lexicon", x -> x.canBe(0), N);
    }

    // ---- promise 21

    @Sentence(promise = 21, says = "GUESS (the TAPE stays): how many ways (what NONE);")
    static void p21_howMany_1To1728() {
        BentWords x = Check.with(SIX + ";message m #0 0 #1 0 #2 0;message n %0 0 %1 0 %2 0;message o x");
        Check.due("all", x.guess(1, N), 1728);
        Check.put(x, "f e d");
        Check.due("counts alone", x.guess(0, N), 8);
        Check.due("the tape stays", x.count(2), 5);
        Check.due("asked again", x.guess(0, N), 8);
        Check.put(x, "x");
        Check.due("one", x.guess(2, N), 1);
        Check.due("the tape stays", x.count(2), 1);
        Check.due("no hole is filled by it", x.most(4), 0);
    }

    @Sentence(promise = 21, says = "of the first what 0, 1, 2: the NOUN in that HOLE, 3, 4, 5: its COUNT.")
    static void p21_theFirst() {
        BentWords x = Check.with(SIX + ";message m #0 0 $0 #1 0 $1 #2 0 $2");
        Check.put(x, "f 2 a 1 c 2");
        int[] want = {5, 0, 2, 2, 1, 2};
        for (int what = 0; what < 6; what++) {
            Check.due("guess(0, " + what + ")", x.guess(0, what), want[what]);
        }
        Check.due("the only way", x.guess(0, N), 1);
    }

    @Sentence(promise = 21, says = "NONE: no such MESSAGE, what, there is no way, it does not ask that HOLE.")
    static void p21_none() {
        Twins.Maker made = () -> Check.put(Twins.busy(), "he x");
        // strict: of message 2 a dog by 1 alone
        Twins.leavesOn(made, "a way", x -> x.guess(2, N), 1);
        Twins.leavesOn(made, "its noun", x -> x.guess(2, 0), 0);
        Twins.leavesOn(made, "its count", x -> x.guess(2, 3), 1);
        for (int message : Check.beside(0, 3)) {
            Twins.leavesOn(made, "message " + message, x -> x.guess(message, N), N);
            Twins.leavesOn(made, "message " + message, x -> x.guess(message, 0), N);
        }
        for (int what : Check.beside(-1, 5)) {
            Twins.leavesOn(made, "what " + what, x -> x.guess(2, what), N);
        }
        for (int what : new int[] {1, 2, 4, 5}) {
            Twins.leavesOn(made, "it does not ask that hole", x -> x.guess(2, what), N);
        }
        for (int what = -1; what < 6; what++) {
            int w = what;
            Twins.leavesOn(made, "no way", x -> x.guess(0, w), N);
            Twins.leavesOn(Twins::bare, "no lexicon", x -> x.guess(0, w), N);
        }
    }
}
