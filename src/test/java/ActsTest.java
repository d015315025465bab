/** Promises 22 to 31 and 33 to 38: acts, what is refused, the log, scripts, images. */
public final class ActsTest {
    private static final int N = BentWords.NONE;
    private static final int H = BentWords.HIDDEN;
    private static final String PAIR = "noun dog 0;noun cat 1;form dog 0 0 dog;"
        + "article 0 0 0 the;message m #0 0;message n @1 0;message o x;message p =0 1";

    public static void main(String[] args) {
        fill();
        empty();
        strict();
        tell();
        drop();
        refusalsWithoutALexicon();
        ways();
        waysOneByOne();
        status();
        undo();
        undoOfManyActs();
        log();
        logBeyondItsEnd();
        would();
        run();
        perform();
        most();
        imageAndBack();
        count();
        Check.finish();
    }

    private static void fill() {
        BentWords x = Check.with(PAIR);
        Check.due("fill", x.fill(0, 0, 1), 0);
        Check.due("fill", x.fill(1, 1, 0), 1);
        Check.due("fill", x.fill(2, 0, 99), 1);
        Check.due("another count", x.fill(2, 0, 98), 1);
        Check.due("another noun", x.fill(2, 1, 98), 1);
        Check.due("no such hole", x.fill(3, 0, 1), N);
        Check.due("no such hole", x.fill(-1, 0, 1), N);
        Check.due("no such noun", x.fill(0, 2, 1), N);
        Check.due("no such noun", x.fill(0, -1, 1), N);
        Check.due("no such hole ahead of the count", x.fill(3, 0, 100), N);
        Check.due("status", Check.status(x), "5 0 0");
        Check.due("count 100", x.fill(0, 0, 100), N);
        Check.due("count -1", x.fill(0, 0, -1), N);
        Check.due("status", Check.status(x), "5 2 0");
        Check.due("it is so", x.fill(0, 0, 1), N);
        Check.due("it is so", x.fill(2, 1, 98), N);
        Check.due("status", Check.status(x), "5 2 2");
        Check.due("it stays", x.hole(0, 1), 1);
        Check.due("acts", x.count(3), 5);
    }

    private static void empty() {
        BentWords x = Check.with(PAIR);
        x.fill(0, 1, 1);
        x.fill(2, 0, 1);
        Check.due("empty", x.empty(0), 1);
        Check.due("empty", x.empty(2), 0);
        Check.due("hole", x.hole(0, 0), N);
        Check.due("no such hole", x.empty(3), N);
        Check.due("no such hole", x.empty(-1), N);
        Check.due("it is so", x.empty(0), N);
        Check.due("it is so", x.empty(1), N);
        Check.due("status", Check.status(x), "2 0 2");
    }

    private static void strict() {
        BentWords x = Check.with(PAIR);
        Check.due("it is so", x.strict(0), N);
        x.fill(0, 1, 1);
        Check.due("can be told", x.rule(6), 5);
        Check.due("strict", x.strict(1), 1);
        Check.due("it is so", x.strict(1), N);
        Check.due("out of bounds", x.strict(2), N);
        Check.due("out of bounds", x.strict(-1), N);
        Check.due("not strict", x.strict(0), 2);
        Check.due("status", Check.status(x), "0 2 2");
    }

    private static void tell() {
        BentWords x = Check.with(PAIR);
        Check.put(x, "  cats ");
        Check.due("tell", x.tell(1, 0, 1), 1);
        Check.due("the tape", x.count(2), 0);
        Check.due("form", Check.form(x, 1, 0, 1), "cats");
        Check.put(x, "katz");
        Check.due("anew", x.tell(1, 0, 1), 1);
        Check.due("form", Check.form(x, 1, 0, 1), "katz");
        Check.put(x, "abcdefgh");
        Check.due("tell", x.tell(1, 3, 0), 2);
        Check.put(x, " katz");
        Check.due("it is so", x.tell(1, 0, 1), N);
        Check.due("status", Check.status(x), "0 0 1");
        Check.due("no such noun", x.tell(2, 0, 0), N);
        Check.due("no such noun", x.tell(-1, 0, 0), N);
        Check.due("no such noun ahead of the case", x.tell(2, 9, 0), N);
        Check.due("status", Check.status(x), "3 0 1");
        int[][] out = {{4, 0}, {-1, 0}, {0, 2}, {0, -1}};
        for (int[] w : out) {
            Check.due("out of bounds", x.tell(0, w[0], w[1]), N);
        }
        Check.due("status", Check.status(x), "3 4 1");
        Check.due("the tape stays", x.count(2), 5);
        String[] none = {"", " ", "abcdefghi", "a b", "a1", "1", "A", "a;", "a" + (char) 255};
        for (String text : none) {
            Check.put(x, text);
            Check.due("tell '" + text + "'", x.tell(0, 0, 0), N);
            Check.due("the tape stays", x.count(2), text.length());
        }
        Check.due("status", Check.status(x), "3 13 1");
        Check.due("form", Check.form(x, 0, 0, 0), "dog");
        Check.put(x, "cat");
        Check.due("told as the name", x.tell(1, 0, 0), 3);
        Check.due("by no default", x.byDefault(1, 0, 0), 0);
    }

    private static void drop() {
        BentWords x = Check.with(PAIR + ";form dog 1 1 dogz");
        Check.due("drop", x.drop(0, 0, 0), 1);
        Check.due("form", Check.form(x, 0, 0, 0), "dog");
        Check.due("byDefault", x.byDefault(0, 0, 0), 4);
        Check.due("it is none", x.drop(0, 0, 0), N);
        Check.due("it is none", x.drop(1, 0, 0), N);
        Check.due("no such noun", x.drop(2, 0, 0), N);
        Check.due("no such noun", x.drop(-1, 5, 5), N);
        int[][] out = {{4, 0}, {-1, 0}, {0, 2}, {0, -1}};
        for (int[] w : out) {
            Check.due("out of bounds", x.drop(0, w[0], w[1]), N);
        }
        Check.due("drop", x.drop(0, 1, 1), 0);
        Check.due("status", Check.status(x), "2 4 2");
    }

    private static void refusalsWithoutALexicon() {
        BentWords x = new BentWords();
        Check.put(x, "abc");
        x.fill(0, 0, 100);
        x.empty(0);
        x.strict(5);
        x.tell(0, 9, 9);
        x.drop(0, 9, 9);
        Check.due("status", Check.status(x), "5 0 0");
        Check.due("the tape stays", x.count(2), 3);
    }

    /** One draw by the document's words. */
    private static long seed;

    private static int draw(int of) {
        seed = seed * 6364136223846793005L + 1442695040888963407L;
        return (int) ((seed >>> 33) % of);
    }

    private static void ways() {
        BentWords x = Check.with(PAIR);
        Check.due("n 0", x.ways(0, 1), N);
        Check.due("n 41", x.ways(41, 1), N);
        Check.due("n -1", x.ways(-1, 1), N);
        Check.due("no act", x.count(3), 0);
        x.ways(40, 7);
        Check.due("acts", x.count(3) > 0, true);
        Check.due("no status", Check.status(x), "0 0 0");
        Check.due("its answer", x.ways(1, 3), Integer.bitCount(x.rule(6)));
    }

    /** The same acts one by one on another object give the same answers. */
    private static void waysOneByOne() {
        for (int s = -20; s < 20; s++) {
            BentWords x = Check.with(PAIR);
            BentWords y = Check.with(PAIR);
            long start = s * 1234567890123457L;
            int n = 1 + Math.floorMod(s * 7, 40);
            int told = x.ways(n, start);
            seed = start;
            for (int i = 0; i < n; i++) {
                drawn(y);
            }
            Check.due("ways", told, Integer.bitCount(y.rule(6)));
            Check.due("log", x.count(3), y.count(3));
            Check.due("undo", x.count(4), y.count(4));
            for (int i = 0; i < x.count(3); i++) {
                Check.due("row", Check.row(x, i), Check.row(y, i));
            }
            for (int i = 0; i < 16; i++) {
                Check.due("form", Check.form(x, i / 8, i / 2 % 4, i % 2),
                    Check.form(y, i / 8, i / 2 % 4, i % 2));
            }
            Check.due("strict", x.rule(5), y.rule(5));
            for (int hole = 0; hole < 3; hole++) {
                Check.due("noun", x.hole(hole, 0), y.hole(hole, 0));
                Check.due("count", x.hole(hole, 1), y.hole(hole, 1));
            }
        }
    }

    private static void drawn(BentWords y) {
        int way = draw(8);
        if (way < 4) {
            int hole = draw(3);
            int noun = draw(2);
            y.fill(hole, noun, draw(4));
        } else if (way == 4) {
            y.empty(draw(3));
        } else if (way == 5) {
            y.strict(draw(2));
        } else {
            int noun = draw(2);
            int kase = draw(4);
            int number = draw(2);
            if (way == 6) {
                String word = "";
                for (int i = 0; i < 3; i++) {
                    word += (char) ('a' + draw(3));
                }
                Check.put(y, word);
                y.tell(noun, kase, number);
            } else {
                y.drop(noun, kase, number);
            }
        }
    }

    private static void status() {
        BentWords x = Check.with(PAIR);
        Check.due("status(-1)", x.status(-1), N);
        Check.due("status(3)", x.status(3), N);
        x.fill(0, 0, 1);
        x.fill(0, 0, 1);
        x.undo();
        Check.due("not undone", Check.status(x), "0 0 1");
        x.image();
        x.fill(9, 0, 1);
        x.back();
        Check.due("not by back", Check.status(x), "1 0 1");
    }

    private static void undo() {
        BentWords x = Check.with(PAIR);
        Check.due("undo", x.undo(), N);
        x.fill(0, 0, 1);
        x.fill(0, 1, 5);
        x.empty(0);
        x.strict(1);
        Check.put(x, "hund");
        x.tell(0, 0, 0);
        x.drop(0, 0, 0);
        Check.due("can be undone", x.count(4), 6);
        Check.due("undo of drop", x.undo(), 5);
        Check.due("form", Check.form(x, 0, 0, 0), "hund");
        Check.due("undo of tell", x.undo(), 4);
        Check.due("form", Check.form(x, 0, 0, 0), "dog");
        Check.due("the tape stays empty", x.count(2), 0);
        Check.due("undo of strict", x.undo(), 3);
        Check.due("strict", x.rule(5), 0);
        Check.due("log", x.count(3), 3);
        Check.due("row", Check.row(x, 0), "1 0 1");
        Check.due("undo of empty", x.undo(), 2);
        Check.due("hole", x.hole(0, 0), 1);
        Check.due("hole", x.hole(0, 1), 5);
        Check.due("undo of fill", x.undo(), 1);
        Check.due("hole", x.hole(0, 0), 0);
        Check.due("hole", x.hole(0, 1), 1);
        Check.due("undo of fill", x.undo(), 0);
        Check.due("hole", x.hole(0, 0), N);
        Check.due("log", x.count(3), 0);
        Check.due("undo", x.undo(), N);
    }

    private static void undoOfManyActs() {
        BentWords x = Check.with(PAIR);
        for (int i = 0; i < 45; i++) {
            x.fill(0, 0, i);
        }
        Check.due("the latest 40", x.count(4), 40);
        for (int i = 39; i >= 0; i--) {
            Check.due("undo", x.undo(), i);
            Check.due("count", x.hole(0, 1), i + 4);
        }
        Check.due("undo", x.undo(), N);
        Check.due("count", x.hole(0, 1), 4);
        Check.due("log", x.count(3), 5);
        x.fill(0, 0, 50);
        Check.due("undo", x.undo(), 0);
        Check.due("count", x.hole(0, 1), 4);
    }

    private static void log() {
        BentWords x = Check.with(PAIR);
        x.fill(1, 1, 1);
        x.fill(0, 0, 1);
        x.strict(1);
        x.strict(0);
        x.empty(1);
        Check.put(x, "mau");
        x.tell(1, 3, 1);
        x.drop(0, 0, 0);
        x.drop(0, 0, 0);
        String[] want = {"4 0 2", "3 1 2", "1 1 2", "2 0 4", "2 1 3", "0 0 4", "0 1 2"};
        Check.due("log", x.count(3), 7);
        for (int i = 0; i < 7; i++) {
            Check.due("row " + i, Check.row(x, i), want[i]);
            Check.due("what 3", x.log(i, 3), H);
            Check.due("what -1", x.log(i, -1), H);
        }
        Check.due("log(7)", x.log(7, 0), H);
        Check.due("log(-1)", x.log(-1, 0), H);
        Check.due("log(max)", x.log(Integer.MAX_VALUE, 0), H);
    }

    private static void logBeyondItsEnd() {
        BentWords x = Check.with(PAIR);
        // the number of a row tells when it came: hole i % 3 is filled by i
        for (int i = 0; i < 70; i++) {
            x.fill(i % 3, 0, i);
        }
        Check.due("the latest 60", x.count(3), 60);
        Check.due("log(59)", x.log(59, 1), 10 % 3);
        Check.due("log(60)", x.log(60, 1), H);
        x.undo();
        Check.due("the log as it was ahead of that act", x.count(3), 60);
        Check.due("log(59)", x.log(59, 1), 9 % 3);
        Check.due("log(0)", x.log(0, 1), 68 % 3);
        for (int i = 0; i < 39; i++) {
            x.undo();
        }
        Check.due("30 acts are left", x.count(3), 30);
        Check.due("log(29)", x.log(29, 1), 0);
        Check.due("log(0)", x.log(0, 1), 29 % 3);
    }

    private static void would() {
        BentWords x = Check.with(PAIR);
        Check.due("would", x.would(0, 0, 1), 1 + 4);
        Check.due("would", x.would(1, 0, 1), 2 + 4);
        x.fill(0, 0, 1);
        Check.due("would", x.would(1, 0, 1), 15);
        Check.due("would", x.would(1, 0, 2), 7);
        Check.due("no such hole", x.would(3, 0, 1), N);
        Check.due("no such noun", x.would(0, 2, 1), N);
        Check.due("count 100", x.would(0, 0, 100), N);
        Check.due("it is so", x.would(0, 0, 1), N);
        Check.due("another one", x.would(0, 1, 1), 5);
        Check.due("no status", Check.status(x), "0 0 0");
        Check.due("no act", x.count(3), 1);
        Check.due("no act", x.count(4), 1);
        Check.due("it stays", x.hole(0, 0), 0);
        Check.due("it stays", x.hole(1, 0), N);
    }

    private static BentWords withScripts(String... scripts) {
        BentWords x = Check.with(PAIR);
        for (int i = 0; i < scripts.length; i++) {
            Check.put(x, scripts[i]);
            Check.due("text(1)", x.text(1), i);
        }
        return x;
    }

    private static void run() {
        BentWords x = withScripts("fill 0 0 1;fill 1 1 1", "fill 0 0 1;fill 0 0 1;strict 1",
            "fill 0 2 1", "strict 1;form 1 0 0 cat;fill 0 1 1;drop 1 0 0;drop 1 0 0");
        int[] behind = {N, 1, 0, 4};
        int[] told = {4, 2, 1, 1};
        for (int i = 0; i < 4; i++) {
            Check.due("run(" + i + ", 0)", x.run(i, 0), behind[i]);
            Check.due("run(" + i + ", 1)", x.run(i, 1), told[i]);
            Check.due("what 2", x.run(i, 2), H);
            Check.due("what -1", x.run(i, -1), H);
        }
        Check.due("run(4)", x.run(4, 0), H);
        Check.due("run(-1)", x.run(-1, 0), H);
        Check.due("nothing changed", x.most(4), 0);
        Check.due("nothing changed", x.rule(4), 1);
        Check.due("nothing changed", x.rule(5), 0);
        Check.due("no act", x.count(3), 0);
        Check.due("no status", Check.status(x), "0 0 0");
        x.fill(0, 0, 1);
        Check.due("from as it is now", x.run(0, 0), 0);
        Check.due("from as it is now", x.run(0, 1), 2);
    }

    private static void perform() {
        BentWords x = withScripts("fill 0 0 1;fill 1 1 1", "empty 0;empty 0;strict 1",
            "fill 0 9 1", "strict 1;form 1 0 0 kat;drop 0 0 0");
        Check.due("perform", x.perform(0), 2);
        Check.due("log", Check.row(x, 0), "0 1 4");
        Check.due("log", Check.row(x, 1), "0 0 2");
        Check.due("perform", x.perform(1), 1);
        Check.due("hole", x.hole(0, 0), N);
        Check.due("not strict", x.rule(5), 0);
        Check.due("perform", x.perform(2), 0);
        Check.due("perform", x.perform(3), 3);
        Check.due("form", Check.form(x, 1, 0, 0), "kat");
        Check.due("log", x.count(3), 6);
        Check.due("log", Check.row(x, 0), "4 0 1");
        Check.due("no status", Check.status(x), "0 0 0");
        Check.due("undo", x.undo(), 5);
        Check.due("undo", x.undo(), 4);
        Check.due("form", Check.form(x, 1, 0, 0), "cat");
        Check.due("perform(4)", x.perform(4), N);
        Check.due("perform(-1)", x.perform(-1), N);
        Check.due("the tape is no matter", x.count(2), 0);
    }

    private static void most() {
        BentWords x = Check.with("noun dog 0;noun cat 1;noun bee 1;form dog 0 0 d;form dog 1 0 d;"
            + "form dog 2 0 e;form dog 3 0 d;form cat 0 0 d;form bee 0 1 bee;article 0 0 0 the;"
            + "message m #0 0 #1 2;message n =0 1 @0 0;message o %2 0 =2 0;message p !1 0");
        Check.due("longest", x.most(0), N);
        Check.due("bytes", x.most(1), 0);
        Check.due("missing", x.most(2), 0);
        Check.due("fewest forms", x.most(3), 1);
        Check.due("filled", x.most(4), 0);
        Check.due("told twice", x.most(5), 3);
        Check.due("why 0", x.most(6), 4);
        x.fill(0, 0, 1);
        x.fill(1, 2, 2);
        // m: d bee; n: numbers; o: 2 is empty; p: kinds
        Check.due("longest", x.most(0), 0);
        Check.due("bytes", x.most(1), 5);
        Check.due("missing", x.most(2), 1);
        Check.due("filled", x.most(4), 3);
        int[] whys = {1, 0, 1, 1, 0};
        for (int i = 0; i < 5; i++) {
            Check.due("why " + i, x.most(6 + i), whys[i]);
        }
        x.strict(1);
        x.fill(2, 1, 1);
        // m: no form of bee in case 2; o: no pronoun
        int[] strict = {0, 1, 1, 1, 1};
        for (int i = 0; i < 5; i++) {
            Check.due("why " + i, x.most(6 + i), strict[i]);
        }
        Check.due("filled", x.most(4), 7);
        Check.due("longest", x.most(0), N);
        x.drop(2, 0, 1);
        Check.due("fewest forms", x.most(3), 2);
        x.strict(0);
        x.fill(1, 0, 1);
        // m: d e; n: the d; o: nothing; p: nothing
        Check.due("longest", x.most(0), 1);
        Check.due("bytes", x.most(1), 5);
        Check.due("most(-1)", x.most(-1), H);
        Check.due("most(11)", x.most(11), H);
        BentWords y = Check.with("noun a 0;noun b 0;message m =0 1;message n !0 1;message o =1 0");
        y.fill(0, 0, 1);
        y.fill(1, 0, 1);
        Check.due("of several the lowest, also by no bytes", y.most(0), 0);
        Check.due("bytes", y.most(1), 0);
        Check.due("fewest forms, the lowest", y.most(3), 0);
    }

    private static void imageAndBack() {
        BentWords x = Check.with(PAIR);
        Check.due("no image", x.back(), N);
        x.fill(0, 0, 1);
        Check.due("image", x.image(), 2);
        Check.due("acts can still be undone", x.count(4), 1);
        x.fill(0, 1, 2);
        x.fill(1, 1, 2);
        x.strict(1);
        x.drop(0, 0, 0);
        Check.due("back", x.back(), 2);
        Check.due("hole", x.hole(0, 0), 0);
        Check.due("hole", x.hole(1, 0), N);
        Check.due("strict", x.rule(5), 0);
        Check.due("forms", x.rule(4), 1);
        Check.due("log", x.count(3), 1);
        Check.due("row", Check.row(x, 0), "0 0 2");
        Check.due("no undo", x.count(4), 0);
        Check.due("no undo", x.undo(), N);
        x.strict(1);
        Check.due("undo", x.undo(), 0);
        Check.due("strict", x.rule(5), 0);
        x.fill(1, 0, 1);
        Check.due("instead of the one ahead", x.image(), 4);
        x.empty(0);
        x.empty(1);
        Check.due("back", x.back(), 4);
        Check.due("back once more", x.back(), 4);
        Check.due("hole", x.hole(1, 0), 0);
        Check.due("log", x.count(3), 2);
    }

    private static void count() {
        BentWords x = Check.with(PAIR);
        Check.put(x, "strict 1");
        x.text(1);
        Check.put(x, "abc");
        x.fill(0, 0, 1);
        x.fill(0, 0, 2);
        x.undo();
        int[] want = {2, 1, 3, 1, 1};
        for (int what = 0; what < 5; what++) {
            Check.due("count(" + what + ")", x.count(what), want[what]);
        }
        Check.due("count(-1)", x.count(-1), H);
        Check.due("count(5)", x.count(5), H);
    }
}
