/** The Terms, sentence by sentence: each bound from inside and from outside. */
public final class TermsBoundsTest {
    private static final int N = BentWords.NONE;
    private static final int H = BentWords.HIDDEN;
    private static final String SIX = "noun a 0;noun b 0;noun c 0;noun d 0;noun e 0;noun f 0";

    public static void main(String[] args) {
        Sentences.run(TermsBoundsTest.class);
    }

    private static void lexicon(String marked) {
        Faults.lexicon(marked);
    }

    private static void script(String marked) {
        Faults.script(marked);
    }

    // ==== 1. lexicons

    @Sentence(promise = 0, says = "A LEXICON is a TEXT: CLAUSES with ; between, each a WORD and what is its:")
    static void t1_clausesWithSemicolonBetween() {
        lexicon("noun a 0");
        lexicon("noun a 0;noun b 1");
        lexicon("noun a 0 |noun b 1");
        lexicon("|;noun a 0");
        lexicon("noun a 0;|");
        lexicon("noun a 0;|;noun b 1");
        lexicon("noun a 0|,noun b 1");
        lexicon("noun a 0|:noun b 1");
    }

    @Sentence(promise = 0, says = "noun NAME K (1 to 6 of these);")
    static void t1_nouns_1To6() {
        lexicon("article 0 0 0 the|");
        lexicon("noun a 0");
        lexicon(SIX);
        lexicon(SIX + ";|noun g 0");
        lexicon(SIX + ";article 0 0 0 the;|noun g 0");
    }

    @Sentence(promise = 0, says = "form NAME C N TEXT (a NOUN told ahead);")
    static void t1_form_ofANounToldAhead() {
        lexicon("noun a 0;form a 0 0 x");
        lexicon("form |a 0 0 x;noun a 0");
        lexicon("noun a 0;form |b 0 0 x;noun b 0");
        lexicon("noun a 0;noun b 0;form a 0 0 x;form b 0 0 x");
        lexicon("noun a 0;message m x;form |m 0 0 x");
    }

    @Sentence(promise = 0, says = "article C N K TEXT, pronoun C N K TEXT;")
    static void t1_articlesAndPronouns_eachPlaceOnce() {
        for (String word : new String[] {"article", "pronoun"}) {
            StringBuilder all = new StringBuilder("noun a 0");
            for (int i = 0; i < 24; i++) {
                all.append(";").append(word).append(i / 6).append(" ").append(i / 3 % 2).append(" ")
                    .append(i % 3).append("x");
            }
            lexicon(all.toString());
            lexicon(all + ";|" + word + " 3 1 2 y");
        }
    }

    @Sentence(promise = 0, says = "message NAME and ITEMS, 1 to 8")
    static void t1_items_1To8() {
        lexicon("noun a 0;message m|");
        lexicon("noun a 0;message m |;noun b 0");
        lexicon("noun a 0;message m x");
        lexicon("noun a 0;message m s t u v w x y z");
        lexicon("noun a 0;message m s t u v w x y z;noun b 0");
        lexicon("noun a 0;message m s t u v w x y z |q");
        lexicon("noun a 0;message m $0$1$2$0$1$2$0$1");
        lexicon("noun a 0;message m $0$1$2$0$1$2$0$1|$2");
    }

    @Sentence(promise = 0, says = "(4 of these at most).")
    static void t1_messages_4AtMost() {
        lexicon("noun a 0");
        lexicon("noun a 0;message m x;message n x;message o x;message p x");
        lexicon("noun a 0;message m x;message n x;message o x;message p x;|message q x");
        Check.due("a lexicon without messages", Check.with("noun a 0").rule(1), 0);
        Check.due("none can be told then", Check.with("noun a 0").rule(6), 0);
    }

    @Sentence(promise = 0, says = "In any order.")
    static void t1_inAnyOrder() {
        lexicon("message m #0 0;pronoun 0 0 0 he;article 0 0 0 the;noun a 0;form a 0 0 x");
        lexicon("noun a 0;form a 0 0 x;noun b 1;article 0 0 0 the;message m x;form b 0 0 y;noun c 2");
        BentWords x = Check.with("message m x;noun b 1;article 0 0 0 the;noun a 2");
        Check.due("nouns as they come", x.noun(0, 0), 1);
        Check.due("nouns as they come", x.noun(1, 0), 2);
    }

    @Sentence(promise = 0, says = "C is a CASE 0 .. 3, N a NUMBER 0 (one), 1 (more), K a KIND 0 .. 2, each one digit;")
    static void t1_caseNumberKind_bounds() {
        lexicon("noun a 2");
        lexicon("noun a |3");
        lexicon("noun a |9");
        lexicon("noun a |02");
        lexicon("noun a 0;form a 3 1 x");
        lexicon("noun a 0;form a |4 1 x");
        lexicon("noun a 0;form a 3 |2 x");
        lexicon("noun a 0;form a |03 1 x");
        lexicon("noun a 0;form a 3 |01 x");
        for (String word : new String[] {"article", "pronoun"}) {
            lexicon("noun a 0;" + word + " 3 1 2 x");
            lexicon("noun a 0;" + word + " |4 1 2 x");
            lexicon("noun a 0;" + word + " 3 |2 2 x");
            lexicon("noun a 0;" + word + " 3 1 |3 x");
            lexicon("noun a 0;" + word + " |00 1 2 x");
            lexicon("noun a 0;" + word + " 3 |00 2 x");
            lexicon("noun a 0;" + word + " 3 1 |00 x");
        }
    }

    @Sentence(promise = 0, says = "NAMES and TEXTS are words of 1 to 8 letters.")
    static void t1_namesAndTexts_1To8Letters() {
        lexicon("noun a 0");
        lexicon("noun abcdefgh 0");
        lexicon("noun |abcdefghi 0");
        lexicon("noun |0");
        lexicon("noun abcdefgh 0;form abcdefgh 0 0 x");
        lexicon("noun abcdefgh 0;form |abcdefghi 0 0 x");
        lexicon("noun abcdefgh 0;form |abcdefg 0 0 x");
        lexicon("noun a 0;form a 0 0 abcdefgh");
        lexicon("noun a 0;form a 0 0 |abcdefghi");
        lexicon("noun a 0;form a 0 0|");
        lexicon("noun a 0;article 0 0 0 abcdefgh");
        lexicon("noun a 0;article 0 0 0 |abcdefghi");
        lexicon("noun a 0;article 0 0 0 |;");
        lexicon("noun a 0;pronoun 0 0 0 abcdefgh");
        lexicon("noun a 0;pronoun 0 0 0 |abcdefghi");
        lexicon("noun a 0;message abcdefgh x");
        lexicon("noun a 0;message |abcdefghi x");
    }

    @Sentence(promise = 0, says = "ITEMS: a word of 1 to 8 letters")
    static void t1_itemWord_1To8Letters() {
        lexicon("noun a 0;message m x");
        lexicon("noun a 0;message m abcdefgh");
        lexicon("noun a 0;message m |abcdefghi");
        lexicon("noun a 0;message m x |abcdefghi y");
    }

    @Sentence(promise = 0, says = "# H C (a NOUN's form)")
    static void t1_itemForm_bounds() {
        holeAndCase('#');
    }

    @Sentence(promise = 0, says = "@ H C (its ARTICLE, and its form)")
    static void t1_itemArticle_bounds() {
        holeAndCase('@');
    }

    @Sentence(promise = 0, says = "% H C (its PRONOUN)")
    static void t1_itemPronoun_bounds() {
        holeAndCase('%');
    }

    private static void holeAndCase(char sign) {
        String head = "noun a 0;message m " + sign;
        lexicon(head + "0 0");
        lexicon(head + "2 3");
        lexicon(head + "|3 0");
        lexicon(head + "|02 0");
        lexicon(head + "2 |4");
        lexicon(head + "2 |03");
        lexicon(head + "|");
        lexicon(head + "2|");
        lexicon(head + "|x");
        lexicon(head + "2 |x");
        lexicon(head + "2 1 |0");
    }

    private static void twoHoles(char sign) {
        String head = "noun a 0;message m " + sign;
        lexicon(head + "0 2");
        lexicon(head + "2 0");
        lexicon(head + "|3 0");
        lexicon(head + "0 |3");
        lexicon(head + "|02 0");
        lexicon(head + "0 |02");
        lexicon(head + "|");
        lexicon(head + "0|");
        lexicon(head + "|x");
        lexicon(head + "0 |x");
        lexicon(head + "0 1 |2");
    }

    @Sentence(promise = 0, says = "$ H (its COUNT)")
    static void t1_itemCount_bounds() {
        lexicon("noun a 0;message m $0");
        lexicon("noun a 0;message m $2");
        lexicon("noun a 0;message m $|3");
        lexicon("noun a 0;message m $|00");
        lexicon("noun a 0;message m $|");
        lexicon("noun a 0;message m $|;");
        lexicon("noun a 0;message m $2 |0");
    }

    @Sentence(promise = 0, says = "= H H (they must agree in NUMBER)")
    static void t1_itemSameNumber_bounds() {
        twoHoles('=');
    }

    @Sentence(promise = 0, says = "! H H (in KIND).")
    static void t1_itemSameKind_bounds() {
        twoHoles('!');
    }

    @Sentence(promise = 0, says = "H is a HOLE 0 .. 2, one digit.")
    static void t1_hole_0To2() {
        for (char sign : "#@%=!".toCharArray()) {
            for (int hole = 0; hole < 3; hole++) {
                lexicon("noun a 0;message m " + sign + hole + " " + (hole + 1) % 3);
            }
            lexicon("noun a 0;message m " + sign + "|3 0");
            lexicon("noun a 0;message m " + sign + "|9 0");
            lexicon("noun a 0;message m " + sign + "|10 0");
        }
    }

    // ---- scripts

    @Sentence(promise = 0, says = "SCRIPTS (4 at most) are TEXTS:")
    static void t1_scripts_4AtMost() {
        BentWords x = new BentWords();
        for (int i = 0; i < 4; i++) {
            Check.put(x, "empty " + i % 3);
            Check.due("script " + i, x.text(1), i);
        }
        Check.put(x, "empty 2");
        Check.due("a fifth has no fault", x.fault(1), N);
        Check.due("a fifth", x.text(1), N);
        Check.due("scripts", x.count(1), 4);
        Check.due("the tape stays", x.count(2), 7);
        Check.due("the fourth stays", x.step(3, 0, 1), 0);
    }

    @Sentence(promise = 0, says = "STEPS with ; between, 1 to 12:")
    static void t1_steps_1To12() {
        script("|");
        script("empty 0");
        script("empty 0;empty 0");
        script("empty 0 |empty 0");
        script("|;empty 0");
        script("empty 0;|");
        script("empty 0" + ";empty 0".repeat(11));
        script("empty 0" + ";empty 0".repeat(11) + "|;empty 0");
    }

    @Sentence(promise = 0, says = "fill H NOUN COUNT (a digit; 0 .. 99),")
    static void t1_stepFill_bounds() {
        script("fill 0 0 0");
        script("fill 2 9 99");
        script("fill |3 9 99");
        script("fill 2 |10 99");
        script("fill 2 |09 99");
        script("fill 2 9 |100");
        script("fill 2 9 |099");
        script("fill 2 9 09");
        script("fill 2 9 00");
        script("fill 2 9|");
        script("fill 2 9 99 |9");
        script("fill 2 |a 9");
    }

    @Sentence(promise = 0, says = "empty H,")
    static void t1_stepEmpty_bounds() {
        script("empty 0");
        script("empty 2");
        script("empty |3");
        script("empty |02");
        script("empty|");
        script("empty 2 |2");
    }

    @Sentence(promise = 0, says = "strict D (0, 1),")
    static void t1_stepStrict_bounds() {
        script("strict 0");
        script("strict 1");
        script("strict |2");
        script("strict |01");
        script("strict|");
        script("strict 1 |1");
    }

    @Sentence(promise = 0, says = "form NOUN C N TEXT,")
    static void t1_stepForm_bounds() {
        script("form 0 0 0 a");
        script("form 9 3 1 abcdefgh");
        script("form |10 3 1 x");
        script("form |a 3 1 x");
        script("form 9 |4 1 x");
        script("form 9 3 |2 x");
        script("form 9 3 1 |abcdefghi");
        script("form 9 3 1|");
        script("form 9 3 1 |5");
        script("form 9 3 1 x |y");
    }

    @Sentence(promise = 0, says = "drop NOUN C N (NOUNS by one digit here, 0 .. 9).")
    static void t1_stepDrop_bounds() {
        script("drop 0 0 0");
        script("drop 9 3 1");
        script("drop |10 3 1");
        script("drop |09 3 1");
        script("drop 9 |4 1");
        script("drop 9 3 |2");
        script("drop 9 3|");
        script("drop 9 3 1 |x");
        script("drop |dog 3 1");
    }

    // ---- faults

    @Sentence(promise = 0, says = "Words are letters (a to z), as many as stand one behind another; numbers digits likewise.")
    static void t1_lettersAndDigits_bounds() {
        lexicon("noun az 0");
        lexicon("noun a|" + (char) ('a' - 1) + " 0");
        lexicon("noun a|" + (char) ('z' + 1) + " 0");
        lexicon("noun |A 0");
        lexicon("noun |Z 0");
        lexicon("noun a|" + (char) ('a' + 128) + " 0");
        script("fill 0 9 0");
        script("fill 0 |" + (char) ('0' - 1) + " 0");
        script("fill 0 |" + (char) ('9' + 1) + " 0");
        script("fill 0 |" + (char) ('0' + 128) + " 0");
        // as many as stand one behind another: no word or number ends within a row of them
        lexicon("|nouna 0");
        lexicon("noun a |00");
        script("fill |00 0");
    }

    @Sentence(promise = 0, says = "Blanks (32) may stand ahead of and behind all these and ;")
    static void t1_blanks_everywhere() {
        lexicon("   noun   a   0   ;   form   a   0   0   x   ;  message  m  #  0  0  y  ");
        lexicon("noun a 0;message m = 0 1 ! 0 1 $ 0 % 0 0 @ 0 0");
        script("   fill   0   0   0   ;   empty   0   ");
        for (int c : new int[] {1, 9, 10, 13, 31, 34, 127, 128, 160, 255}) {
            lexicon("noun a 0|" + (char) c + ";noun b 0");
            script("empty|" + (char) c + "0");
        }
        lexicon(" ".repeat(470) + "noun a 0");
        lexicon("noun a 0" + " ".repeat(472));
        lexicon(" ".repeat(480) + "|");
    }

    @Sentence(promise = 0, says = "(needed between two words alone).")
    static void t1_blanks_neededBetweenTwoWordsAlone() {
        lexicon("noun a0;form a0 0x;article0 0 0x;message m x#0 0y$1=0 1!0 1%0 0@0 0");
        lexicon("|nouna0");
        lexicon("noun a0;form a|00x");
        script("fill0 0 0;empty0;strict1;form0 0 0x;drop0 0 0");
        script("fill|00 0");
    }

    @Sentence(promise = 0, says = "FAULT: where the first part begins that can't be")
    static void t1_fault_whereThePartBegins() {
        lexicon("noun  |abcdefghijklm 0");
        lexicon("noun a    |77");
        lexicon("noun |7 abcdefghi");
        lexicon("noun a |9;verb");
        script("fill |9 99 999");
        script("empty 0;  |verb");
        BentWords x = Check.put(new BentWords(), " ".repeat(479) + "?");
        Check.due("at the last place there is", x.fault(0), 479);
        Check.due("at the last place there is", x.fault(1), 479);
    }

    @Sentence(promise = 0, says = "(the length, if the TEXT ends too early, or without a noun):")
    static void t1_fault_theLength() {
        lexicon("|");
        lexicon("  |");
        lexicon("noun|");
        lexicon("noun |");
        lexicon("noun a|");
        lexicon("noun a  |");
        lexicon("noun a 0;|");
        lexicon("noun a 0; |");
        lexicon("noun a 0;form|");
        lexicon("noun a 0;form a|");
        lexicon("noun a 0;form a 0|");
        lexicon("noun a 0;form a 0 0  |");
        lexicon("noun a 0;article|");
        lexicon("noun a 0;article 0|");
        lexicon("noun a 0;article 0 0|");
        lexicon("noun a 0;article 0 0 0|");
        lexicon("noun a 0;message|");
        lexicon("noun a 0;message m  |");
        lexicon("article 0 0 0 the|");
        lexicon("message m x  |");
        script("|");
        script(" |");
        script("fill|");
        script("fill 0|");
        script("fill 0 0|");
        script("empty 0;|");
        script("form 0 0 0 |");
        script("drop 0 0 |");
        BentWords x = Check.put(new BentWords(), " ".repeat(480));
        Check.due("a full tape", x.fault(0), 480);
        Check.due("a full tape", x.fault(1), 480);
    }

    @Sentence(promise = 0, says = "a word of none of these CLAUSES, STEPS,")
    static void t1_fault_aWordOfNone() {
        for (String word : new String[] {"nou", "nouns", "nounn", "forms", "for", "articles", "articl",
            "pronouns", "pronou", "messages", "messag", "fill", "empty", "strict", "drop", "x",
            "boun", "noum", "dorm", "forn", "brticle", "articlf", "bronoun", "pronoum", "gessage",
            "messagf"}) {
            lexicon("|" + word + " 0 0 0");
            lexicon("noun a 0;|" + word + " 0 0 0");
        }
        for (String word : new String[] {"fil", "fills", "empt", "emptys", "stric", "stricts", "forms",
            "drops", "dro", "noun", "article", "pronoun", "message", "x", "vill", "filk", "impty",
            "emptz", "ctrict", "stricd", "dorm", "forn", "crop", "droq"}) {
            script("|" + word + " 0 0 0");
            script("empty 0;|" + word + " 0 0 0");
        }
    }

    @Sentence(promise = 0, says = "a word of nine letters or more,")
    static void t1_fault_nineLetters() {
        lexicon("|nounnounn a 0");
        lexicon("noun |abcdefghi 0");
        lexicon("noun |" + "a".repeat(475));
        lexicon("noun a 0;form a 0 0 |abcdefghi");
        lexicon("noun a 0;message m |abcdefghi");
        script("|emptyempt 0");
        script("form 0 0 0 |abcdefghi");
        script("form 0 0 0 abcdefgh");
    }

    @Sentence(promise = 0, says = "a NAME of a NOUN, of a MESSAGE that was told as one, of a NOUN that was not;")
    static void t1_fault_names() {
        lexicon("noun a 0;noun |a 0");
        lexicon("noun a 0;noun |a 9");
        lexicon("noun a 0;noun aa 0");
        lexicon("noun a 0;message m x;message |m x");
        lexicon("noun a 0;message m x;message |m");
        lexicon("noun a 0;message m x;message mm x");
        lexicon("noun a 0;message a x;noun m 0;message m x");
        lexicon("noun a 0;form |b 0 0 x");
        lexicon("noun a 0;form |aa 0 0 x");
        lexicon("noun abcdefgh 0;noun |abcdefgh 0");
        lexicon("noun abcdefgh 0;noun abcdefgz 0;form abcdefgz 0 0 x");
    }

    @Sentence(promise = 0, says = "a digit out of its bounds,")
    static void t1_fault_digitOutOfBounds() {
        lexicon("noun a |3");
        lexicon("noun a 0;form a |4 0 x");
        lexicon("noun a 0;form a 0 |2 x");
        lexicon("noun a 0;article |4 0 0 x");
        lexicon("noun a 0;article 0 |2 0 x");
        lexicon("noun a 0;article 0 0 |3 x");
        lexicon("noun a 0;message m #|3 0");
        lexicon("noun a 0;message m #0 |4");
        script("fill |3 0 0");
        script("empty |3");
        script("strict |2");
        script("form 0 |4 0 x");
        script("form 0 0 |2 x");
        script("drop 0 |4 0");
        script("drop 0 0 |2");
    }

    @Sentence(promise = 0, says = "two digits where one must stand, COUNT of three;")
    static void t1_fault_twoDigits() {
        lexicon("noun a |00");
        lexicon("noun a |11");
        lexicon("noun a |0000000000000000000000000000");
        lexicon("noun a 0;form a |00 0 x");
        lexicon("noun a 0;message m $|00");
        lexicon("noun a 0;message m =0 |01");
        script("fill |00 0 0");
        script("fill 0 |00 0");
        script("fill 0 0 00");
        script("fill 0 0 |000");
        script("fill 0 0 |100");
        script("fill 0 0 |4294967296");
        script("fill 0 0 |" + "9".repeat(300));
        script("strict |00");
        script("drop 0 0 |00");
    }

    @Sentence(promise = 0, says = "a seventh noun, a fifth message (at the first word of the CLAUSE), a ninth ITEM;")
    static void t1_fault_seventhFifthNinth() {
        lexicon(SIX + "; |noun g 0");
        lexicon(SIX + ";|noun a 0");
        lexicon(SIX + ";|noun g 9");
        lexicon(SIX + ";|noun");
        String four = "noun a 0;message m x;message n x;message o x;message p x; ";
        lexicon(four + "|message q x");
        lexicon(four + "|message m x");
        lexicon(four + "|message q");
        lexicon(four + "|message");
        String eight = "noun a 0;message m s t u v w x y z ";
        lexicon(eight);
        lexicon(eight + "|q");
        lexicon(eight + "|#0 0");
        lexicon(eight + "|abcdefghi");
        lexicon(eight + "|5");
    }

    @Sentence(promise = 0, says = "a form, an article, a pronoun that was told (at the first word, whatever its TEXT);")
    static void t1_fault_toldAgain() {
        String a = "noun a 0;noun b 0;form a 0 0 x;";
        lexicon(a + "|form a 0 0 x");
        lexicon(a + " |form a 0 0 y");
        lexicon(a + "|form a 0 0 abcdefghi");
        lexicon(a + "|form a 0 0 5");
        lexicon(a + "form a 0 1 x;form a 1 0 x;form b 0 0 x");
        lexicon(a + "form a 0 |2 x");
        for (String word : new String[] {"article", "pronoun"}) {
            String told = "noun a 0;" + word + " 1 1 1 x; ";
            lexicon(told + "|" + word + " 1 1 1 x");
            lexicon(told + "|" + word + " 1 1 1 y");
            lexicon(told + "|" + word + " 1 1 1 abcdefghi");
            lexicon(told + word + " 1 1 0 x;" + word + " 1 0 1 x;" + word + " 0 1 1 x");
        }
        lexicon("noun a 0;article 1 1 1 x;pronoun 1 1 1 x");
    }

    @Sentence(promise = 0, says = "= or ! with two HOLES alike (at the second);")
    static void t1_fault_holesAlike() {
        for (char sign : "=!".toCharArray()) {
            for (int hole = 0; hole < 3; hole++) {
                lexicon("noun a 0;message m " + sign + hole + " |" + hole);
                lexicon("noun a 0;message m " + sign + hole + "   |" + hole + " x");
                lexicon("noun a 0;message m " + sign + hole + " " + (hole + 2) % 3);
            }
        }
        lexicon("noun a 0;message m #0 0 @1 1 %2 2");
    }

    @Sentence(promise = 0, says = "any other part;")
    static void t1_fault_anyOtherPart() {
        lexicon("|1");
        lexicon("|#");
        lexicon("noun |;");
        lexicon("noun |#0 0");
        lexicon("noun a |b 0");
        lexicon("noun a 0 |0");
        lexicon("noun a 0|#");
        lexicon("noun a 0;article |the");
        lexicon("noun a 0;message m x |1");
        lexicon("noun a 0;message m x |&");
        lexicon("noun a 0;message m #|#");
        script("|0");
        script("|;");
        script("empty |x");
        script("empty 0 |x");
        script("empty 0|#");
        script("fill 0|;0 0");
        script("form 0 0 0 |;");
    }

    @Sentence(promise = 0, says = "the ; ahead of a 13th STEP.")
    static void t1_fault_aheadOfA13thStep() {
        String twelve = "strict 0" + ";strict 1".repeat(11);
        script(twelve);
        script(twelve + " ");
        script(twelve + "|;strict 0");
        script(twelve + " |; strict 0");
        script(twelve + "|;verb");
        script(twelve + "|;strict 0;strict 0");
        String eleven = "strict 0" + ";strict 1".repeat(10);
        script(eleven + ";|verb");
    }

    @Sentence(promise = 0, says = "(What a STEP tells that can't be is no FAULT.)")
    static void t1_fault_notByWhatAStepTells() {
        script("fill 2 9 99;empty 0;empty 0;strict 0;strict 0;drop 9 0 0;form 9 0 0 x;form 9 0 0 x");
        BentWords x = Check.with("noun a 0");
        Check.put(x, "fill 0 1 1");
        Check.due("no such noun is no fault", x.fault(1), N);
        Check.due("it is a script", x.text(1), 0);
        Check.due("but can't be", x.run(0, 0), 0);
    }

    // ==== 2. nouns, forms, articles

    @Sentence(promise = 0, says = "NOUNS (numbered as they come) have a KIND, FORMS: for CASE and NUMBER a TEXT or none.")
    static void t2_nouns_asTheyCome() {
        BentWords x = Check.with("noun f 2;noun e 1;noun d 0;noun c 2;noun b 1;noun aa 0;form aa 3 1 z");
        String[] names = {"f", "e", "d", "c", "b", "aa"};
        for (int noun = 0; noun < 6; noun++) {
            Check.due("its name", Check.form(x, noun, 0, 0), names[noun]);
            Check.due("its kind", x.noun(noun, 0), 2 - noun % 3);
            Check.due("its forms", x.noun(noun, 2), noun == 5 ? 1 : 0);
        }
    }

    @Sentence(promise = 0, says = "FORM of a NOUN in a CASE, a NUMBER: what is told;")
    static void t2_form_asTold() {
        StringBuilder all = new StringBuilder("noun n 0");
        for (int i = 0; i < 8; i++) {
            all.append(";form n ").append(i / 2).append(" ").append(i % 2).append(" ")
                .append((char) ('a' + i));
        }
        BentWords x = Check.with(all.toString());
        for (int i = 0; i < 8; i++) {
            Check.due("form " + i, Check.form(x, 0, i / 2, i % 2), "" + (char) ('a' + i));
            Check.due("by none", x.byDefault(0, i / 2, i % 2), 0);
        }
    }

    private static void defaults(String forms, String[] want, int[] by) {
        BentWords x = Check.with("noun n 0" + forms);
        for (int i = 0; i < 8; i++) {
            Check.due("form " + i, Check.form(x, 0, i / 2, i % 2), want[i]);
            Check.due("byDefault " + i, x.byDefault(0, i / 2, i % 2), by[i]);
        }
    }

    @Sentence(promise = 0, says = "without that (DEFAULT 1) that of CASE 0 in the NUMBER;")
    static void t2_default1_case0InTheNumber() {
        defaults(";form n 0 0 one;form n 0 1 more;form n 2 0 c",
            new String[] {"one", "more", "one", "more", "c", "more", "one", "more"},
            new int[] {0, 0, 1, 1, 0, 1, 1, 1});
    }

    @Sentence(promise = 0, says = "without that (2) that of the CASE in NUMBER 0;")
    static void t2_default2_theCaseInNumber0() {
        defaults(";form n 0 0 one;form n 3 0 c",
            new String[] {"one", "one", "one", "one", "one", "one", "c", "c"},
            new int[] {0, 2, 1, 3, 1, 3, 0, 2});
    }

    @Sentence(promise = 0, says = "without that (3) that of CASE 0 in NUMBER 0;")
    static void t2_default3_case0InNumber0() {
        defaults(";form n 0 0 one;form n 1 1 d",
            new String[] {"one", "one", "one", "d", "one", "one", "one", "one"},
            new int[] {0, 2, 1, 0, 1, 3, 1, 3});
    }

    @Sentence(promise = 0, says = "without that (4) its NAME.")
    static void t2_default4_itsName() {
        defaults("", new String[] {"n", "n", "n", "n", "n", "n", "n", "n"},
            new int[] {4, 4, 4, 4, 4, 4, 4, 4});
        defaults(";form n 0 1 more;form n 2 1 e",
            new String[] {"n", "more", "n", "more", "n", "e", "n", "more"},
            new int[] {4, 0, 4, 1, 4, 0, 4, 1});
    }

    @Sentence(promise = 0, says = "ARTICLE, PRONOUN for CASE, NUMBER, KIND: as told; without that (1) that of KIND 0;")
    static void t2_boundWords_byKind0() {
        BentWords x = Check.with("noun n 0;article 3 1 0 a;article 3 1 2 b;pronoun 0 0 0 c;pronoun 0 0 1 d");
        String[] articles = {"a", "a", "b"};
        String[] pronouns = {"c", "d", "c"};
        for (int kind = 0; kind < 3; kind++) {
            Check.due("article", Check.bound(x, false, 3, 1, kind), articles[kind]);
            Check.due("pronoun", Check.bound(x, true, 0, 0, kind), pronouns[kind]);
        }
    }

    @Sentence(promise = 0, says = "without that (2) none: it is left out.")
    static void t2_boundWords_leftOut() {
        BentWords x = Check.with("noun n 0;noun k 1;article 3 1 1 a;pronoun 3 1 1 b;"
            + "message m x @0 3 y;message o %0 3 y;message p y %0 3;message q %0 3");
        for (int i = 0; i < 24; i++) {
            boolean told = i == 22;
            Check.due("article " + i, x.word(false, i / 6, i / 3 % 2, i % 3, N), told ? 1 : 0);
            Check.due("pronoun " + i, x.word(true, i / 6, i / 3 % 2, i % 3, N), told ? 1 : 0);
        }
        x.fill(0, 0, 2);
        Check.due("no article, no blank", Check.line(x, 0), "x n y");
        Check.due("no pronoun, no blank", Check.line(x, 1), "y");
        Check.due("no pronoun, no blank", Check.line(x, 2), "y");
        Check.due("nothing", Check.line(x, 3), "");
        x.fill(0, 1, 2);
        Check.due("with an article", Check.line(x, 0), "x a k y");
        Check.due("with a pronoun", Check.line(x, 2), "y b");
    }

    // ---- holes and messages

    @Sentence(promise = 0, says = "HOLES 0 to 2 are EMPTY (at first), or FILLED: a NOUN, a COUNT 0 .. 99;")
    static void t2_holes_emptyAtFirst_countBounds() {
        BentWords x = Check.with(SIX);
        for (int hole = 0; hole < 3; hole++) {
            Check.due("empty at first", x.hole(hole, 0), N);
            for (int noun : new int[] {0, 5}) {
                for (int count : new int[] {0, 99}) {
                    Check.due("fill", x.fill(hole, noun, count), 1);
                    Check.due("its noun", x.hole(hole, 0), noun);
                    Check.due("its count", x.hole(hole, 1), count);
                }
            }
        }
        Check.due("filled", x.most(4), 7);
        Check.due("no fourth hole", x.fill(3, 0, 1), N);
        Check.due("count 100", x.fill(0, 0, 100), N);
        Check.due("count -1", x.fill(0, 0, -1), N);
        Check.due("as it was", x.hole(0, 1), 99);
    }

    @Sentence(promise = 0, says = "its NUMBER is 0, if COUNT is 1, else 1.")
    static void t2_number_byCount() {
        BentWords x = Check.with("noun a 0");
        for (int count = 0; count <= 99; count++) {
            Check.due("fill by " + count, x.fill(0, 0, count), count == 1 ? 0 : 1);
            Check.due("number by " + count, x.hole(0, 2), count == 1 ? 0 : 1);
        }
    }

    @Sentence(promise = 0, says = "STRICT or not (at first not).")
    static void t2_strict_atFirstNot() {
        BentWords x = Check.with("noun a 0");
        Check.due("at first not", x.rule(5), 0);
        x.strict(1);
        Check.due("strict", x.rule(5), 1);
        Check.put(x, "noun a 0");
        x.text(0);
        Check.due("at first not, also of the next lexicon", x.rule(5), 0);
    }

    @Sentence(promise = 0, says = "A MESSAGE is TOLD ITEM by ITEM: words as they are; the others by what FILLS the HOLE;")
    static void t2_told_itemByItem() {
        BentWords x = Check.with("noun dog 0;noun abcdefgh 2;form dog 0 0 hund;article 0 0 0 the;"
            + "pronoun 1 0 2 it;message m abcdefgh #0 0 @0 0 $1 %1 1 #1 3 z;message n z");
        x.fill(0, 0, 1);
        x.fill(1, 1, 1);
        Check.due("m", Check.line(x, 0), "abcdefgh hund the hund 1 it abcdefgh z");
        Check.due("n", Check.line(x, 1), "z");
    }

    @Sentence(promise = 0, says = "COUNT as a number;")
    static void t2_told_countAsANumber() {
        BentWords x = Check.with("noun a 0;message m $2;message n x $2 y");
        for (int count : new int[] {0, 1, 9, 10, 11, 19, 20, 90, 99}) {
            x.fill(2, 0, count);
            Check.due("count " + count, Check.line(x, 0), "" + count);
            Check.due("count " + count, Check.line(x, 1), "x " + count + " y");
        }
    }

    @Sentence(promise = 0, says = "= and ! tell nothing; with a blank between two that tell something.")
    static void t2_told_blanksBetween() {
        BentWords x = Check.with("noun a 0;message m =0 1 x !0 1 y =1 0;message n =0 1;"
            + "message o !1 0 =1 0 $0 !0 1;message p %0 0 =0 1 %0 0");
        x.fill(0, 0, 2);
        x.fill(1, 0, 3);
        Check.due("m", Check.line(x, 0), "x y");
        Check.due("n", Check.line(x, 1), "");
        Check.due("o", Check.line(x, 2), "2");
        Check.due("p", Check.line(x, 3), "");
        Check.due("nothing, but it can be told", x.message(1, 2), 1);
        Check.due("by no bytes", x.message(1, 3), 0);
    }

    @Sentence(promise = 0, says = "It can't be TOLD, if an ITEM (the first such one) has a HOLE that is EMPTY (of two the first one),")
    static void t2_cantBeTold_empty() {
        BentWords x = Check.with("noun a 0;message m x #2 0 $1;message n =2 1;message o !1 2;message p z");
        Check.due("the first item", Check.why(x, 0), "1 2 0");
        Check.due("of two the first", Check.why(x, 1), "0 2 0");
        Check.due("of two the first", Check.why(x, 2), "0 1 0");
        Check.due("no hole", Check.why(x, 3), "-");
        x.fill(2, 0, 1);
        Check.due("the next item", Check.why(x, 0), "2 1 0");
        Check.due("the second alone", Check.why(x, 1), "0 1 0");
        Check.due("the first alone", Check.why(x, 2), "0 1 0");
        x.empty(2);
        x.fill(1, 0, 1);
        Check.due("the first alone", Check.why(x, 1), "0 2 0");
        Check.due("the second alone", Check.why(x, 2), "0 2 0");
        x.fill(2, 0, 1);
        Check.due("all are filled", x.rule(6), 15);
    }

    @Sentence(promise = 0, says = "HOLES that don't agree,")
    static void t2_cantBeTold_holesThatDontAgree() {
        BentWords x = Check.with("noun a 0;noun b 1;noun c 1;message m =0 1;message n !0 1");
        x.fill(0, 0, 1);
        x.fill(1, 1, 1);
        Check.due("1 and 1 agree, kinds don't", x.rule(6), 1);
        x.fill(0, 2, 0);
        Check.due("0 and 1 don't agree, kinds do", x.rule(6), 2);
        x.fill(1, 1, 99);
        Check.due("0 and 99 agree, kinds, too", x.rule(6), 3);
        x.fill(1, 0, 1);
        Check.due("neither", x.rule(6), 0);
        x.strict(1);
        x.fill(1, 1, 2);
        Check.due("strict is no matter", x.rule(6), 3);
    }

    @Sentence(promise = 0, says = "or, if it is STRICT, a DEFAULT.")
    static void t2_cantBeTold_strictByDefault() {
        BentWords x = Check.with("noun a 0;noun b 1;form a 0 0 x;form b 0 0 y;article 0 0 0 the;"
            + "pronoun 0 0 0 it;message m #0 0;message n @0 0;message o %0 0;message p $0");
        x.fill(0, 0, 1);
        Check.due("not strict", x.rule(6), 15);
        Check.due("all is told", x.strict(1), 4);
        x.fill(0, 1, 1);
        Check.due("article and pronoun by kind 0 are defaults", x.rule(6), 1 + 8);
        x.fill(0, 0, 2);
        Check.due("all by default", x.rule(6), 8);
        Check.due("not strict: defaults are no matter", x.strict(0), 4);
    }

    @Sentence(promise = 0, says = "WHY: ITEM; HOLE (of two that don't agree the second one);")
    static void t2_why_theSecondHole() {
        BentWords x = Check.with("noun a 0;noun b 1;message m a b c d e f g =2 0;message n !0 2 x");
        x.fill(0, 0, 1);
        x.fill(2, 1, 2);
        Check.due("the second, item 7", Check.why(x, 0), "7 0 2");
        Check.due("the second, item 0", Check.why(x, 1), "0 2 3");
    }

    @Sentence(promise = 0, says = "0 EMPTY, 1 no such FORM, 2 NUMBERS don't agree, 3 KINDS don't,")
    static void t2_why_0To3() {
        BentWords x = Check.with("noun a 0;noun b 1;message m #2 0;message n #0 0;message o =0 1;message p !0 1");
        x.fill(0, 0, 1);
        x.fill(1, 1, 2);
        x.strict(1);
        String[] want = {"0 2 0", "0 0 1", "0 1 2", "0 1 3"};
        for (int message = 0; message < 4; message++) {
            Check.due("why of " + message, Check.why(x, message), want[message]);
            Check.due("how many", x.most(6 + message), 1);
        }
        Check.due("none of 4", x.most(10), 0);
    }

    @Sentence(promise = 0, says = "4 no such ARTICLE, PRONOUN (of @ the ARTICLE ahead of the FORM).")
    static void t2_why_4_theArticleAheadOfTheForm() {
        BentWords x = Check.with("noun a 0;article 1 0 0 the;form a 2 0 x;"
            + "message m @0 0;message n @0 1;message o @0 2;message p %0 0");
        x.fill(0, 0, 1);
        x.strict(1);
        Check.due("neither", Check.why(x, 0), "0 0 4");
        Check.due("the article alone is told", Check.why(x, 1), "0 0 1");
        Check.due("the form alone is told", Check.why(x, 2), "0 0 4");
        Check.due("no pronoun", Check.why(x, 3), "0 0 4");
    }

    // ---- acts

    @Sentence(promise = 0, says = "A HOLE is FILLED (also anew), or EMPTY; STRICT, or not; a FORM is told (also anew); DROPPED.")
    static void t2_acts_alsoAnew() {
        BentWords x = Check.with("noun a 0;noun b 0");
        Check.due("filled", x.fill(0, 0, 1), 0);
        Check.due("anew by a count", x.fill(0, 0, 2), 1);
        Check.due("anew by a noun", x.fill(0, 1, 2), 1);
        Check.due("the same", x.fill(0, 1, 2), N);
        Check.put(x, "x");
        Check.due("told", x.tell(0, 0, 0), 1);
        Check.put(x, "y");
        Check.due("told anew", x.tell(0, 0, 0), 1);
        Check.due("anew", Check.form(x, 0, 0, 0), "y");
        Check.put(x, "y");
        Check.due("the same", x.tell(0, 0, 0), N);
        Check.due("dropped", x.drop(0, 0, 0), 0);
        Check.due("strict", x.strict(1), 0);
        Check.due("or not", x.strict(0), 0);
        Check.due("empty", x.empty(0), 1);
        Check.due("acts", x.count(3), 9);
    }

    @Sentence(promise = 0, says = "All these are ACTS: the latest 40 can be UNDONE one by one (the LOG, too).")
    static void t2_acts_40CanBeUndone() {
        for (int acts : new int[] {1, 39, 40, 41, 42, 99}) {
            BentWords x = Check.with("noun a 0");
            for (int i = 0; i < acts; i++) {
                x.fill(0, 0, i);
            }
            int undoable = Math.min(acts, 40);
            Check.due("can be undone of " + acts, x.count(4), undoable);
            for (int left = undoable - 1; left >= 0; left--) {
                Check.due("undo", x.undo(), left);
                int done = acts - undoable + left;
                Check.due("log", x.count(3), Math.min(done, 60));
                Check.due("count", x.hole(0, 1), done == 0 ? N : done - 1);
            }
            Check.due("no more", x.undo(), N);
            Check.due("nothing changed by that", x.count(3), Math.min(acts - undoable, 60));
        }
    }

    @Sentence(promise = 0, says = "STATUS: how many ACTS were refused as there was no such one, no LEXICON (0),")
    static void t2_status_0() {
        BentWords x = new BentWords();
        x.fill(0, 0, 1);
        x.empty(0);
        x.strict(1);
        Check.put(x, "a");
        x.tell(0, 0, 0);
        x.drop(0, 0, 0);
        Check.due("no lexicon", Check.status(x), "5 0 0");
        Check.put(x, "noun a 0");
        x.text(0);
        x.fill(3, 0, 1);
        x.fill(0, 1, 1);
        x.empty(3);
        Check.put(x, "a");
        x.tell(1, 0, 0);
        x.drop(1, 0, 0);
        Check.due("no such one", Check.status(x), "10 0 0");
    }

    @Sentence(promise = 0, says = "out of bounds, the TAPE is no TEXT of 1 to 8 letters (1), it is so (2);")
    static void t2_status_1And2() {
        BentWords x = Check.with("noun a 0;form a 0 0 b");
        x.fill(0, 0, 100);
        x.strict(2);
        x.drop(0, 4, 0);
        x.drop(0, 0, 2);
        Check.put(x, "b");
        x.tell(0, 4, 0);
        Check.due("out of bounds", Check.status(x), "0 5 0");
        Check.put(x, "");
        x.tell(0, 0, 0);
        Check.put(x, "abcdefghi");
        x.tell(0, 0, 0);
        Check.due("the tape", Check.status(x), "0 7 0");
        Check.put(x, "b");
        x.tell(0, 0, 0);
        x.drop(0, 1, 0);
        x.strict(0);
        x.empty(0);
        x.fill(0, 0, 1);
        x.fill(0, 0, 1);
        Check.due("it is so", Check.status(x), "0 7 5");
    }

    @Sentence(promise = 0, says = "of several the first;")
    static void t2_status_ofSeveralTheFirst() {
        Twins.refused("fill: no hole, no noun, count", x -> x.fill(3, 2, 100), N, 0);
        Twins.refused("fill: no noun, count", x -> x.fill(0, 2, 100), N, 0);
        Twins.refusedBy(() -> Check.put(Twins.busy(), "7"), "tell: no noun, case, number, tape",
            x -> x.tell(2, 4, 2), N, 0);
        Twins.refusedBy(() -> Check.put(Twins.busy(), "7"), "tell: no noun, tape",
            x -> x.tell(2, 0, 0), N, 0);
        Twins.refused("drop: no noun, case, number", x -> x.drop(2, 4, 2), N, 0);
        Twins.refusedBy(BentWords::new, "fill without a lexicon", x -> x.fill(3, 9, 100), N, 0);
        Twins.refusedBy(BentWords::new, "empty without a lexicon", x -> x.empty(0), N, 0);
        Twins.refusedBy(BentWords::new, "strict without a lexicon: it is so", x -> x.strict(0), N, 0);
        Twins.refusedBy(BentWords::new, "strict without a lexicon: bounds", x -> x.strict(2), N, 0);
        Twins.refusedBy(BentWords::new, "tell without a lexicon", x -> x.tell(0, 4, 2), N, 0);
        Twins.refusedBy(BentWords::new, "drop without a lexicon", x -> x.drop(0, 4, 2), N, 0);
    }

    @Sentence(promise = 0, says = "not UNDONE.")
    static void t2_status_notUndone() {
        BentWords x = Twins.busy();
        while (x.undo() != N) {
            Check.due("status", Check.status(x), "1 1 1");
        }
        Check.due("status", Check.status(x), "1 1 1");
        x.back();
        Check.due("status", Check.status(x), "1 1 1");
    }

    @Sentence(promise = 0, says = "The LOG: of each ACT its sort (0 FILLED, 1 EMPTY, 2 STRICT, 3 told, 4 DROPPED), a number (the HOLE; STRICT 0, 1; the NOUN),")
    static void t2_log_sortAndNumber() {
        BentWords x = Check.with(SIX);
        x.fill(2, 5, 99);
        Check.due("filled", Check.row(x, 0), "0 2 0");
        x.empty(2);
        Check.due("empty", Check.row(x, 0), "1 2 0");
        x.strict(1);
        Check.due("strict", Check.row(x, 0), "2 1 0");
        x.strict(0);
        Check.due("not strict", Check.row(x, 0), "2 0 0");
        Check.put(x, "x");
        x.tell(5, 3, 1);
        Check.due("told", Check.row(x, 0), "3 5 0");
        x.drop(5, 3, 1);
        Check.due("dropped", Check.row(x, 0), "4 5 0");
        x.drop(5, 3, 1);
        Check.due("what is refused has no row", x.count(3), 6);
    }

    @Sentence(promise = 0, says = "how many MESSAGES can be TOLD then:")
    static void t2_log_messagesThen() {
        BentWords x = Check.with("noun a 0;message m $0;message n $0;message o $0;message p $0");
        x.fill(0, 0, 1);
        x.fill(1, 0, 1);
        x.empty(0);
        Check.due("now none", Check.row(x, 0), "1 0 0");
        Check.due("then all", Check.row(x, 1), "0 1 4");
        Check.due("then all", Check.row(x, 2), "0 0 4");
    }

    @Sentence(promise = 0, says = "the latest 60.")
    static void t2_log_60() {
        for (int acts : new int[] {0, 1, 59, 60, 61, 62, 130}) {
            BentWords x = Check.with("noun a 0");
            for (int i = 0; i < acts; i++) {
                x.fill(i % 3, 0, i % 100);
            }
            int rows = Math.min(acts, 60);
            Check.due("rows of " + acts, x.count(3), rows);
            for (int i = 0; i < rows; i++) {
                Check.due("row " + i + " of " + acts, x.log(i, 1), (acts - 1 - i) % 3);
            }
            Check.due("no row more", x.log(rows, 1), H);
        }
    }

    // ==== 3. apart

    @Sentence(promise = 0, says = "(Apart, from as it is now.)")
    static void t3_apart_nothingChanges() {
        Twins.leaves("missing", x -> x.missing(0, N, 0), 1);
        Twins.leaves("bare", x -> x.bare(0), 254);
        Twins.leaves("fits", x -> x.fits(0, 0), 0);
        Twins.leaves("needs", x -> x.needs(0), 5);
        Twins.leaves("alike", x -> x.alike(1), 3);
        Twins.leaves("canBe", x -> x.canBe(0), 0);
        Twins.leaves("guess", x -> x.guess(0, N), N);
        Twins.leaves("would", x -> x.would(2, 1, 99), 4);
        Twins.leaves("run", x -> x.run(0, 0), N);
        Twins.leaves("run", x -> x.run(1, 1), 1);
        Twins.leaves("most", x -> x.most(0), 2);
    }

    @Sentence(promise = 0, says = "MISSING of a MESSAGE: its ITEMS # and @ whose HOLE is FILLED and whose FORM is a DEFAULT: how many; of the i-th NOUN, CASE, NUMBER, DEFAULT.")
    static void t3_missing_emptyAndFull() {
        BentWords x = Check.with("noun a 0;noun b 1;form b 0 0 x;form b 2 0 y;"
            + "message m #0 0 @0 1 #0 2 @0 3 #1 0 @1 1 #1 2 @1 3;message n %0 0 $0 =0 1 !0 1 w");
        Check.due("holes are empty", x.missing(0, N, 0), 0);
        x.fill(0, 0, 1);
        Check.due("one hole is filled", x.missing(0, N, 0), 4);
        x.fill(1, 1, 1);
        Check.due("b lacks 1 0, 3 0", x.missing(0, N, 0), 6);
        x.fill(1, 1, 0);
        Check.due("all eight", x.missing(0, N, 0), 8);
        int[][] want = {{0, 0, 0, 4}, {0, 1, 0, 4}, {0, 2, 0, 4}, {0, 3, 0, 4},
            {1, 0, 1, 2}, {1, 1, 1, 3}, {1, 2, 1, 2}, {1, 3, 1, 3}};
        for (int i = 0; i < 8; i++) {
            for (int what = 0; what < 4; what++) {
                Check.due("missing " + i + ", " + what, x.missing(0, i, what), want[i][what]);
            }
        }
        Check.due("no ninth", x.missing(0, 8, 0), N);
        Check.due("# and @ alone", x.missing(1, N, 0), 0);
    }

    @Sentence(promise = 0, says = "BARE of a NOUN: which of its eight FORMS are none (bits: 2 times CASE, and NUMBER).")
    static void t3_bare_eachBit() {
        BentWords x = Check.with("noun a 0;noun b 0");
        int bits = 255;
        Check.due("all", x.bare(0), bits);
        for (int i = 0; i < 8; i++) {
            Check.put(x, "x");
            x.tell(0, i / 2, i % 2);
            bits -= 1 << i;
            Check.due("less one", x.bare(0), bits);
        }
        Check.due("none", x.bare(0), 0);
        Check.due("of the other all", x.bare(1), 255);
        x.drop(0, 3, 1);
        Check.due("the highest", x.bare(0), 128);
    }

    @Sentence(promise = 0, says = "FITS of a HOLE of a MESSAGE: NOUNS (bits) by which, with this HOLE FILLED so (COUNT 1, and COUNT 2, both), no ITEM # or @ of that HOLE has a DEFAULT.")
    static void t3_fits_bothCounts() {
        BentWords x = Check.with("noun a 0;noun b 0;noun c 0;noun d 0;form a 1 0 x;form b 1 1 x;"
            + "form c 1 0 x;form c 1 1 x;message m #0 1;message n @1 1;message o %0 1 $0 =0 1;"
            + "message p #0 1 #0 2");
        Check.due("both alone", x.fits(0, 0), 4);
        Check.due("both alone, of @, too", x.fits(1, 1), 4);
        Check.due("a hole that is not asked", x.fits(0, 1), 15);
        Check.due("no # or @", x.fits(2, 0), 15);
        Check.due("one of two items", x.fits(3, 0), 0);
        x.fill(0, 2, 5);
        Check.due("what is filled is no matter", x.fits(0, 0), 4);
    }

    @Sentence(promise = 0, says = "NEEDS of a MESSAGE: how few FORMS must be told so that each NOUN FITS each HOLE it asks by # or @.")
    static void t3_needs_emptyAndFull() {
        BentWords x = Check.with(SIX + ";message m #0 0 @1 1 #2 2 @0 3;message n #0 0 #1 0 @2 0;"
            + "message o %0 0 $1 =0 1;message p x");
        Check.due("48", x.needs(0), 48);
        Check.due("a case that is asked three times", x.needs(1), 12);
        Check.due("no # or @", x.needs(2), 0);
        Check.due("no hole", x.needs(3), 0);
        Check.put(x, "x");
        x.tell(5, 0, 1);
        Check.due("one less", x.needs(0), 47);
        Check.due("one less", x.needs(1), 11);
    }

    @Sentence(promise = 0, says = "ALIKE of a NOUN: how many unlike FORMS (with DEFAULTS) it has;")
    static void t3_alike_1To8() {
        BentWords x = Check.with("noun n 0;noun o 0");
        Check.due("its name alone", x.alike(0), 1);
        // told from the last one on, so that none stands for another one by default but the first
        int[] want = {2, 3, 4, 5, 6, 7, 8, 8};
        for (int k = 0; k < 8; k++) {
            int place = 7 - k;
            Check.put(x, "" + (char) ('a' + place));
            x.tell(0, place / 2, place % 2);
            Check.due("alike behind " + (k + 1), x.alike(0), want[k]);
        }
        for (int i = 0; i < 8; i++) {
            Check.put(x, "o");
            x.tell(1, i / 2, i % 2);
        }
        Check.due("all alike", x.alike(1), 1);
    }

    @Sentence(promise = 0, says = "what a TEXT (the TAPE) can be of it: bits as BARE, by FORMS with DEFAULTS.")
    static void t3_canBe_eachBit() {
        BentWords x = Check.with("noun n 0");
        Check.put(x, "n");
        Check.due("its name", x.canBe(0), 255);
        Check.put(x, "m");
        Check.due("another", x.canBe(0), 0);
        for (int i = 7; i >= 0; i--) {
            Check.put(x, "" + (char) ('a' + i));
            x.tell(0, i / 2, i % 2);
        }
        for (int i = 0; i < 8; i++) {
            Check.put(x, "" + (char) ('a' + i));
            Check.due("one bit", x.canBe(0), 1 << i);
        }
        Check.put(x, "n");
        Check.due("its name no more", x.canBe(0), 0);
        x.drop(0, 1, 1);
        Check.put(x, "b");
        Check.due("by a default, too", x.canBe(0), 2 + 8);
    }

    @Sentence(promise = 0, says = "GUESS: how many ways there are to fill the HOLES that a MESSAGE asks (by NOUNS, COUNT 1 or 2 each) so that it is TOLD as the TAPE (to the byte);")
    static void t3_guess_emptyAndFull() {
        BentWords x = Check.with(SIX + ";message m %0 0 %1 0 %2 0;message n =0 1;message o #1 0 $1;message p x");
        Check.due("12 times 12 times 12", x.guess(0, N), 1728);
        Check.due("the same number", x.guess(1, N), 72);
        Check.due("not told by nothing", x.guess(2, N), N);
        Check.put(x, "f 2");
        Check.due("one way", x.guess(2, N), 1);
        Check.due("its noun", x.guess(2, 1), 5);
        Check.due("its count", x.guess(2, 4), 2);
        for (String no : new String[] {"f 0", "f 3", "f 2 ", " f 2", "f  2", "f 22", "f", "", "F 2", "g 2"}) {
            Check.put(x, no);
            Check.due("no way: '" + no + "'", x.guess(2, N), N);
        }
        Check.put(x, "x");
        Check.due("no hole is asked", x.guess(3, N), 1);
        Check.put(x, "x ");
        Check.due("to the byte", x.guess(3, N), N);
    }

    @Sentence(promise = 0, says = "the first way: HOLE by HOLE, NOUN, then COUNT rising.")
    static void t3_guess_theFirstWay() {
        BentWords x = Check.with("noun a 0;noun b 1;noun c 1;form a 0 0 z;form b 0 1 z;form c 0 0 z;"
            + "message m #0 0 #2 0 !0 2;message n #0 0 =0 2 $2;message o %2 0 %0 0");
        Check.put(x, "z z");
        // z: a by 1, a by 2 (a default), b by 2, c by 1, c by 2
        Check.due("ways of one kind", x.guess(0, N), 4 + 9);
        int[] want = {0, N, 0, 1, N, 1};
        for (int what = 0; what < 6; what++) {
            Check.due("the first", x.guess(0, what), want[what]);
        }
        Check.put(x, "z 2");
        Check.due("ways by two", x.guess(1, N), 3 * 3);
        int[] two = {0, N, 0, 2, N, 2};
        for (int what = 0; what < 6; what++) {
            Check.due("the first by two", x.guess(1, what), two[what]);
        }
        Check.put(x, "");
        Check.due("hole 0 changes slowest", x.guess(2, 0), 0);
        Check.due("all the lowest", x.guess(2, 5), 1);
    }

    @Sentence(promise = 0, says = "WOULD a HOLE be FILLED: MESSAGES that can be TOLD (bits).")
    static void t3_would_bits() {
        BentWords x = Check.with("noun a 0;noun b 1;message m $0;message n =0 1;message o !0 1;message p z");
        Check.due("m and p", x.would(0, 0, 1), 1 + 8);
        Check.due("p alone", x.would(1, 0, 1), 8);
        x.fill(0, 0, 1);
        Check.due("all", x.would(1, 0, 1), 15);
        Check.due("not the number", x.would(1, 0, 2), 13);
        Check.due("not the kind", x.would(1, 1, 1), 11);
        Check.due("neither", x.would(1, 1, 2), 9);
    }

    @Sentence(promise = 0, says = "ASKED by a MESSAGE: HOLES (bits).")
    static void t3_asked_eachBit() {
        BentWords x = Check.with("noun a 0;message m x;message n #0 0;message o =1 2;message p !2 0 $1");
        int[] want = {0, 1, 6, 7};
        for (int message = 0; message < 4; message++) {
            Check.due("asked", x.message(message, 1), want[message]);
        }
        BentWords y = Check.with("noun a 0;message m @2 0;message n %1 0;message o $2 $0;message p z #1 1");
        int[] other = {4, 2, 5, 2};
        for (int message = 0; message < 4; message++) {
            Check.due("asked", y.message(message, 1), other[message]);
        }
    }

    @Sentence(promise = 0, says = "LONGEST: the MESSAGE that is TOLD by most bytes, of several the lowest.")
    static void t3_longest_ofSeveralTheLowest() {
        BentWords x = Check.with("noun a 0;message m x;message n x y;message o ab c;message p d $0 efg");
        Check.due("o, by one more", x.most(0), 2);
        Check.due("m, the first one", Check.with("noun a 0;message m xy;message n x;message o xy").most(0), 0);
        BentWords y = Check.with("noun a 0;message m x;message n xyz;message o x y;message p d $0 efg");
        Check.due("of two the lowest", y.most(0), 1);
        y.fill(0, 0, 1);
        Check.due("p now", y.most(0), 3);
        Check.due("its bytes", y.most(1), 7);
    }

    @Sentence(promise = 0, says = "RUN of a SCRIPT: behind how many STEPS the first is that can't be; how many MESSAGES can be TOLD behind these.")
    static void t3_run_firstMiddleLast() {
        BentWords x = Check.with("noun a 0;message m $0;message n $1");
        Twins.script(x, "fill 0 1 1;fill 0 0 1");
        Twins.script(x, "fill 0 0 1;fill 1 0 1;empty 2");
        Twins.script(x, "fill 0 0 1;empty 0;fill 0 0 1;fill 0 0 1;fill 1 0 1");
        Twins.script(x, "fill 0 0 1;fill 0 0 2;fill 0 0 3;fill 0 0 4;fill 0 0 5;fill 0 0 6;fill 0 0 7;"
            + "fill 0 0 8;fill 0 0 9;fill 0 0 10;fill 0 0 11;fill 1 0 0");
        int[] behind = {0, 2, 3, N};
        int[] told = {0, 2, 1, 2};
        for (int i = 0; i < 4; i++) {
            Check.due("run(" + i + ", 0)", x.run(i, 0), behind[i]);
            Check.due("run(" + i + ", 1)", x.run(i, 1), told[i]);
        }
    }

    @Sentence(promise = 0, says = "DO: its STEPS as ACTS, up to there (no STATUS).")
    static void t3_do_upToThere() {
        BentWords x = Check.with("noun a 0;message m $0");
        Twins.script(x, "fill 0 1 1;fill 0 0 1");
        Twins.script(x, "fill 0 0 1;fill 0 0 1;fill 1 0 1");
        Check.due("none", x.perform(0), 0);
        Check.due("no act", x.count(3), 0);
        Check.due("one", x.perform(1), 1);
        Check.due("an act", Check.row(x, 0), "0 0 1");
        Check.due("none behind that", x.hole(1, 0), N);
        Check.due("no status", Check.status(x), "0 0 0");
        Check.due("it can be undone", x.undo(), 0);
    }

    // ==== 4. ways, images

    @Sentence(promise = 0, says = "WAYS by a seed: n (1 .. 40) times: a draw of 8:")
    static void t4_ways_1To40() {
        for (int n : Check.beside(1, 40)) {
            Twins.leaves("ways(" + n + ", 7)", x -> x.ways(n, 7), N);
        }
        BentWords x = Check.with(SIX);
        x.ways(1, 3);
        Check.due("one act", x.count(3), 1);
        BentWords y = Check.with(SIX);
        y.ways(40, 3);
        Check.due("more acts", y.count(3) > 20, true);
        Check.due("no more than 40", y.count(3) <= 40, true);
    }

    @Sentence(promise = 0, says = "0 to 3: draws of 3, of NOUNS, of 4: FILLED; 4: a draw of 3: EMPTY; 5: a draw of 2: STRICT (1), or not;")
    static void t4_ways_filledEmptyStrict() {
        BentWords x = Check.with(SIX);
        x.ways(1, -1);
        Check.due("fill(2, 1, 2)", x.hole(2, 0), 1);
        Check.due("fill(2, 1, 2)", x.hole(2, 1), 2);
        x.ways(1, 14);
        Check.due("empty(2)", x.hole(2, 0), N);
        Check.due("empty(2)", Check.row(x, 0), "1 2 0");
        x.ways(1, 13);
        Check.due("strict(1)", x.rule(5), 1);
        Check.due("strict(1)", Check.row(x, 0), "2 1 0");
        // fill(0, 3, 3); fill(1, 4, 1); strict(0)
        x.ways(3, 15);
        Check.due("strict(0)", x.rule(5), 0);
        Check.due("fill(0, 3, 3)", x.hole(0, 0), 3);
        Check.due("fill(0, 3, 3)", x.hole(0, 1), 3);
        Check.due("fill(1, 4, 1)", x.hole(1, 0), 4);
        Check.due("fill(1, 4, 1)", x.hole(1, 1), 1);
    }

    @Sentence(promise = 0, says = "6: draws of NOUNS, of 4, of 2, then of 3 letters of 3 each (a, b, c): told; 7: draws of NOUNS, of 4, of 2: DROPPED.")
    static void t4_ways_toldDropped() {
        BentWords x = Check.with(SIX);
        x.ways(1, 1);
        Check.due("tell(3, 0, 0) of acc", Check.form(x, 3, 0, 0), "acc");
        Check.due("told", Check.row(x, 0), "3 3 0");
        x.ways(2, 1);
        Check.due("tell(3, 2, 1) of baa", Check.form(x, 3, 2, 1), "baa");
        x.ways(1, 7);
        Check.due("tell(5, 1, 1) of bcb", Check.form(x, 5, 1, 1), "bcb");
        Check.put(x, "x");
        x.tell(4, 2, 0);
        x.ways(1, 12);
        Check.due("drop(4, 2, 0)", x.byDefault(4, 2, 0), 4);
        Check.due("dropped", Check.row(x, 0), "4 4 0");
    }

    @Sentence(promise = 0, says = "Each is an ACT; what can't be is left (no STATUS).")
    static void t4_ways_whatCantBeIsLeft() {
        // seed 0: drop(0, 1, 0), which is none; strict(1); fill(2, 0, 3)
        BentWords x = Check.with(SIX);
        x.ways(1, 0);
        Check.due("no act", x.count(3), 0);
        x.ways(3, 0);
        Check.due("two acts", x.count(3), 2);
        Check.due("can be undone", x.count(4), 2);
        x.ways(3, 0);
        Check.due("all is so", x.count(3), 2);
        Check.due("no status", Check.status(x), "0 0 0");
        Check.due("undo", x.undo(), 1);
        Check.due("undone", x.hole(2, 0), N);
    }

    @Sentence(promise = 0, says = "x, at first the seed, becomes x times 6364136223846793005 and 1442695040888963407 (64 bits, going round); a draw of j: (x shifted right by 33, without sign) modulo j.")
    static void t4_ways_draws() {
        BentWords x = Check.with(SIX);
        // fill(1, 3, 2), fill(1, 5, 3), fill(1, 1, 2), fill(0, 4, 0), fill(2, 4, 2), fill(1, 3, 3)
        x.ways(6, Long.MAX_VALUE);
        int[][] holes = {{4, 0}, {3, 3}, {4, 2}};
        for (int hole = 0; hole < 3; hole++) {
            Check.due("noun by the largest seed", x.hole(hole, 0), holes[hole][0]);
            Check.due("count by the largest seed", x.hole(hole, 1), holes[hole][1]);
        }
        Check.due("acts", x.count(3), 6);
        // drop(4, 1, 0) of none, strict(1), fill(0, 4, 3), drop(4, 2, 1) of none, empty(1), fill(2, 3, 3)
        x.ways(6, Long.MIN_VALUE);
        int[][] then = {{4, 3}, {N, N}, {3, 3}};
        for (int hole = 0; hole < 3; hole++) {
            Check.due("noun by the smallest seed", x.hole(hole, 0), then[hole][0]);
            Check.due("count by the smallest seed", x.hole(hole, 1), then[hole][1]);
        }
        Check.due("acts", x.count(3), 10);
        // of one noun a draw is a draw, too: tell(0, 0, 0, acc), tell(0, 2, 1, baa), fill(1, 0, 3)
        BentWords one = Check.with("noun n 0");
        one.ways(3, 1);
        Check.due("one noun", Check.form(one, 0, 0, 0), "acc");
        Check.due("one noun", Check.form(one, 0, 2, 1), "baa");
        Check.due("one noun", one.hole(1, 1), 3);
        // beyond 32 bits: empty(1), tell(1, 2, 0, cba)
        BentWords y = Check.with(SIX);
        y.ways(2, 1L << 33);
        Check.due("a seed beyond 32 bits", Check.form(y, 1, 2, 0), "cba");
        Check.due("one act", y.count(3), 1);
    }

    @Sentence(promise = 0, says = "An IMAGE keeps all that ACTS change; BACK: it is so again (no ACT can be UNDONE then).")
    static void t4_image_all() {
        BentWords x = Twins.busy();
        x.image();
        x.strict(0);
        x.empty(0);
        x.fill(1, 0, 50);
        x.fill(2, 0, 50);
        Check.put(x, "x");
        x.tell(0, 0, 0);
        x.drop(1, 1, 0);
        x.drop(1, 0, 1);
        Check.put(x, " word ");
        Check.due("back", x.back(), 1);
        Check.due("no act can be undone", x.undo(), N);
        Check.due("no act can be undone", x.count(4), 0);
        BentWords y = Twins.busy();
        y.image();
        y.back();
        Twins.sameAnswers("behind back", x, y);
    }

    @Sentence(promise = 0, says = "What is refused answers as told and changes nothing but STATUS.")
    static void t4_refused_changesNothingButStatus() {
        Twins.refused("fill", x -> x.fill(0, 0, 1), N, 2);
        Twins.refused("empty", x -> x.empty(2), N, 2);
        Twins.refused("strict", x -> x.strict(1), N, 2);
        Twins.refused("tell", x -> x.tell(0, 4, 0), N, 1);
        Twins.refused("drop", x -> x.drop(0, 0, 1), N, 2);
        Twins.leaves("feed", x -> {
            int before = x.count(2);
            Check.put(x, "x".repeat(480));
            long answer = x.feed(1, 0, 0, 0, 0);
            Check.due("the tape was", before, 6);
            Check.put(x, " word ");
            return answer;
        }, N);
        Twins.leaves("end", x -> x.end(7) ? 1 : 0, 0);
        Twins.leaves("text(0)", x -> x.text(0), N);
        Twins.leaves("text(1)", x -> x.text(1), N);
        Twins.leaves("text(2)", x -> x.text(2), N);
        Twins.leaves("ways", x -> x.ways(0, 0), N);
        Twins.leaves("would", x -> x.would(0, 0, 1), N);
        Twins.leaves("perform", x -> x.perform(2), N);
        Twins.leaves("run", x -> x.run(2, 0), H);
        Twins.leaves("status", x -> x.status(3), N);
    }

    @Sentence(promise = 0, says = "The constants: NONE = -1: None; refused.")
    static void t4_constant_none() {
        Check.due("NONE", BentWords.NONE, -1);
    }

    @Sentence(promise = 0, says = "HIDDEN = -1000000: Not told.")
    static void t4_constant_hidden() {
        Check.due("HIDDEN", BentWords.HIDDEN, -1000000);
    }
}
