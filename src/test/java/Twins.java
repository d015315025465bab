import java.util.ArrayList;
import java.util.List;

/**
 * Two objects made alike, one of which gets a call more: whether that call changed anything is seen by
 * asking both of them all that can be asked.
 */
final class Twins {
    private static final int N = BentWords.NONE;

    /** Two nouns, all sorts of items, and each sort of what can be told. */
    static final String BUSY = "noun dog 0;noun cat 1;form dog 0 0 dog;form dog 0 1 dogs;"
        + "form cat 1 0 kat;article 0 0 0 the;article 0 1 1 las;pronoun 0 0 0 he;"
        + "message m @0 0 sees #1 1;message n =0 1 $2;message o %0 0 x;message p !1 0";

    private Twins() {
    }

    interface Maker {
        BentWords make();
    }

    interface Call {
        long on(BentWords x);
    }

    /**
     * Hole 0 has a dog, hole 1 two cats, hole 2 is empty; it is strict; five acts were done, two of
     * them ahead of the image; STATUS is 1 1 1; there are two scripts; the tape is " word ". Told can
     * be message 2 alone; messages 0, 1, 3 have WHY 1, 2, 3.
     */
    static BentWords busy() {
        BentWords x = Check.with(BUSY);
        script(x, "fill 2 1 7;empty 0;form 0 3 1 abc");
        script(x, "empty 2;drop 1 0 0");
        x.fill(0, 0, 1);
        x.fill(1, 1, 2);
        x.image();
        Check.put(x, "cats");
        x.tell(1, 0, 1);
        x.strict(1);
        x.drop(0, 0, 1);
        x.strict(1);
        x.fill(3, 0, 0);
        x.fill(0, 0, 100);
        return Check.put(x, " word ");
    }

    /** No lexicon, but a script, and a word on the tape. */
    static BentWords bare() {
        BentWords x = new BentWords();
        script(x, "fill 0 0 1");
        return Check.put(x, "word");
    }

    static void script(BentWords x, String text) {
        Check.put(x, text);
        Check.due("text(1) of '" + text + "'", x.text(1) >= 0, true);
    }

    /** A busy object refuses the call; STATUS counts it by this number alone. */
    static void refused(String call, Call c, long answer, int status) {
        refusedBy(Twins::busy, call, c, answer, status);
    }

    /** A busy object answers so, and nothing changes, STATUS neither. */
    static void leaves(String call, Call c, long answer) {
        refusedBy(Twins::busy, call, c, answer, N);
    }

    static void leavesOn(Maker maker, String call, Call c, long answer) {
        refusedBy(maker, call, c, answer, N);
    }

    static void refusedBy(Maker maker, String call, Call c, long answer, int status) {
        BentWords x = maker.make();
        BentWords y = maker.make();
        Check.due(call, c.on(x), answer);
        for (int i = 0; i < 3; i++) {
            Check.due("status(" + i + ") behind " + call, x.status(i),
                y.status(i) + (i == status ? 1 : 0));
        }
        sameAnswers("behind " + call, x, y);
    }

    /** Both answer all alike but STATUS; uses both up. */
    static void sameAnswers(String when, BentWords x, BentWords y) {
        List<String> got = picture(x);
        List<String> want = picture(y);
        Check.due("answers " + when, got.size(), want.size());
        for (int i = 0; i < Math.min(got.size(), want.size()); i++) {
            if (!got.get(i).equals(want.get(i))) {
                Check.due("an answer " + when, got.get(i), want.get(i));
                return;
            }
        }
    }

    /** All that can be asked but STATUS, the tape last: it is told as a form then. */
    private static List<String> picture(BentWords x) {
        List<String> p = new ArrayList<>();
        for (int what = 0; what < 5; what++) {
            p.add("count(" + what + ") " + x.count(what));
        }
        p.add("faults " + x.fault(0) + " " + x.fault(1));
        texts(x, p);
        nouns(x, p);
        messages(x, p);
        changing(x, "now", p);
        for (int what = 0; what < 11; what++) {
            p.add("most(" + what + ") " + x.most(what));
        }
        int undone = 0;
        for (int left = x.undo(); left != N; left = x.undo()) {
            undone++;
            changing(x, "behind undo " + undone + ", " + left, p);
        }
        p.add("back " + x.back());
        changing(x, "behind back", p);
        p.add("tell " + x.tell(0, 3, 0));
        p.add("the tape was " + (x.count(0) > 0 ? Check.form(x, 0, 3, 0) : ""));
        return p;
    }

    private static void texts(BentWords x, List<String> p) {
        for (int script = 0; script < x.count(1); script++) {
            for (int i = 0; i < 12 && x.step(script, i, 0) != BentWords.HIDDEN; i++) {
                String numbers = "";
                for (int what = 0; what < 5; what++) {
                    numbers += " " + x.step(script, i, what);
                }
                p.add("step " + script + ", " + i + ":" + numbers);
            }
            p.add("run " + script + ": " + x.run(script, 0) + " " + x.run(script, 1));
        }
    }

    private static void nouns(BentWords x, List<String> p) {
        for (int noun = 0; noun < x.count(0); noun++) {
            p.add("noun " + noun + ": " + x.noun(noun, 0) + " " + x.noun(noun, 1) + ", "
                + x.alike(noun) + " " + x.canBe(noun));
            for (int i = 0; i < 8; i++) {
                int by = x.byDefault(noun, i / 2, i % 2);
                p.add("form " + noun + ", " + i + " by " + by
                    + (by == 0 ? " " + Check.form(x, noun, i / 2, i % 2) : ""));
            }
        }
        for (int i = 0; i < 24 && x.count(0) > 0; i++) {
            p.add("article " + i + " " + x.word(false, i / 6, i % 2, i / 2 % 3, N));
            p.add("pronoun " + i + " " + x.word(true, i / 6, i % 2, i / 2 % 3, N));
        }
    }

    private static void messages(BentWords x, List<String> p) {
        for (int message = 0; message < x.rule(1); message++) {
            p.add("message " + message + ": " + x.message(message, 0) + " " + x.message(message, 1)
                + ", '" + Check.line(x, message) + "', why " + Check.why(x, message));
            p.add("missing " + message + ": " + x.missing(message, N, 0) + ", needs "
                + x.needs(message) + ", fits " + x.fits(message, 0) + " " + x.fits(message, 1)
                + " " + x.fits(message, 2) + ", guess " + x.guess(message, N));
        }
    }

    /** What acts change. */
    private static void changing(BentWords x, String when, List<String> p) {
        p.add(when + ": forms " + x.rule(4) + ", bare " + x.bare(0) + " " + x.bare(1) + ", strict "
            + x.rule(5) + ", can be told " + x.rule(6) + ", log " + x.count(3));
        for (int hole = 0; hole < 3; hole++) {
            p.add(when + ": hole " + hole + " " + x.hole(hole, 0) + " " + x.hole(hole, 1));
        }
        int rows = x.count(3);
        if (rows > 0) {
            p.add(when + ": log " + Check.row(x, 0) + " .. " + Check.row(x, rows - 1));
        }
    }
}
