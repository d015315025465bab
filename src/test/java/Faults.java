/** Texts with faults: the fault lies where the mark | stands; without a mark there is none. */
final class Faults {
    private Faults() {
    }

    static void lexicon(String marked) {
        fault(0, marked.replace("|", ""), marked.indexOf('|'));
    }

    static void script(String marked) {
        fault(1, marked.replace("|", ""), marked.indexOf('|'));
    }

    private static void fault(int sort, String text, int want) {
        BentWords x = Check.put(new BentWords(), text);
        Check.due("fault(" + sort + ") of '" + text + "'", x.fault(sort), want);
        int taken = x.text(sort);
        if (want == BentWords.NONE) {
            Check.due("text of '" + text + "'", taken >= 0, true);
            Check.due("the tape then", x.count(2), 0);
        } else {
            Check.due("text of '" + text + "'", taken, BentWords.NONE);
            Check.due("the tape then", x.count(2), text.length());
            Check.due("scripts then", x.count(1), 0);
            Check.due("nouns then", x.rule(0), BentWords.NONE);
        }
    }
}
