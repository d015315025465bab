import java.util.NoSuchElementException;

/**
 * Words that bend: a lexicon of nouns with forms, articles and pronouns, messages whose holes are
 * filled by nouns and counts, scripts of acts, a log of them, and what can be asked of all these.
 *
 * A word of 1 to 8 letters is held as one long, its first letter in the lowest byte; 0 is no word.
 * So two words are alike when their numbers are, and no call has to make an object.
 */
public final class BentWords {
    public static final int NONE = -1;
    public static final int HIDDEN = -1000000;

    private static final int NO_SUCH_SORT = -2;
    private static final int LEXICON_TEXT = 0;
    private static final int SCRIPT_TEXT = 1;

    private static final int MOST_BYTES = 480;
    private static final int MOST_LETTERS = 8;
    private static final int MOST_NOUNS = 6;
    private static final int MOST_MESSAGES = 4;
    private static final int MOST_ITEMS = 8;
    private static final int MOST_SCRIPTS = 4;
    private static final int MOST_STEPS = 12;
    private static final int MOST_COUNT = 99;
    private static final int MOST_UNDONE = 40;
    private static final int MOST_LOGGED = 60;
    private static final int MOST_WAYS = 40;

    private static final int CASES = 4;
    private static final int NUMBERS = 2;
    private static final int KINDS = 3;
    private static final int HOLES = 3;
    private static final int FORMS = CASES * NUMBERS;

    /** Each of eight items tells at most two words of eight letters, with a blank ahead of each. */
    private static final int MOST_LINE = MOST_ITEMS * 2 * (MOST_LETTERS + 1);

    private static final int FILLED = 0;
    private static final int EMPTIED = 1;
    private static final int STRICTNESS = 2;
    private static final int FORM_TOLD = 3;
    private static final int DROPPED = 4;

    private static final int NO_SUCH_ONE = 0;
    private static final int OUT_OF_BOUNDS = 1;
    private static final int IS_SO = 2;
    private static final int REFUSALS = 3;

    private static final int WHY_EMPTY = 0;
    private static final int WHY_FORM = 1;
    private static final int WHY_NUMBERS = 2;
    private static final int WHY_KINDS = 3;
    private static final int WHY_BOUND_WORD = 4;

    private static final char PLAIN_WORD = 'w';
    private static final char NOUN_FORM = '#';
    private static final char ARTICLE_AND_FORM = '@';
    private static final char PRONOUN = '%';
    private static final char COUNT = '$';
    private static final char SAME_NUMBER = '=';
    private static final char SAME_KIND = '!';

    private final Tape tape;
    private final Cursor cursor;
    private final LexiconReader lexiconReader;
    private final ScriptReader scriptReader;
    private final Lexicon lexicon;
    private boolean hasLexicon;
    private final Script[] scripts;
    private int scriptCount;
    private final State state;
    private final State aside;
    private final Teller teller;
    private final History history;
    private final State imageState;
    private final History imageHistory;
    private boolean hasImage;
    private final int[] refused;
    private final Draws draws;
    private final Step own;
    private int firstGuess;

    public BentWords() {
        tape = new Tape();
        cursor = new Cursor(tape);
        lexiconReader = new LexiconReader(cursor);
        scriptReader = new ScriptReader(cursor);
        lexicon = new Lexicon();
        // one more than can be kept: a text is read into the next one, also when none is left
        scripts = new Script[MOST_SCRIPTS + 1];
        for (int i = 0; i < scripts.length; i++) {
            scripts[i] = new Script();
        }
        state = new State();
        aside = new State();
        teller = new Teller(lexicon, state);
        history = new History();
        imageState = new State();
        imageHistory = new History();
        refused = new int[REFUSALS];
        draws = new Draws();
        own = new Step();
    }

    // ---- the tape and the texts on it

    public int feed(int a, int b, int c, int d, int e) {
        int more = Tape.bytesIn(a) + Tape.bytesIn(b) + Tape.bytesIn(c) + Tape.bytesIn(d)
            + Tape.bytesIn(e);
        if (tape.length + more > MOST_BYTES) {
            return NONE;
        }
        tape.add(a);
        tape.add(b);
        tape.add(c);
        tape.add(d);
        tape.add(e);
        return tape.length;
    }

    public boolean end(int n) {
        if (n < 0 || n > tape.length) {
            return false;
        }
        tape.length = n;
        return true;
    }

    public int fault(int sort) {
        switch (sort) {
            case LEXICON_TEXT:
                return lexiconReader.findFault();
            case SCRIPT_TEXT:
                return scriptReader.findFault(scripts[scriptCount]);
            default:
                return NO_SUCH_SORT;
        }
    }

    public int text(int sort) {
        switch (sort) {
            case LEXICON_TEXT:
                return lexiconReader.findFault() == NONE ? adoptLexicon() : NONE;
            case SCRIPT_TEXT:
                return scriptCount < MOST_SCRIPTS
                    && scriptReader.findFault(scripts[scriptCount]) == NONE ? adoptScript() : NONE;
            default:
                return NONE;
        }
    }

    /** What was read without a fault is the lexicon now. */
    private int adoptLexicon() {
        lexicon.copyFrom(lexiconReader.draft);
        hasLexicon = true;
        state.beginWith(lexicon);
        history.clear();
        hasImage = false;
        tape.length = 0;
        return lexicon.nouns;
    }

    /** What was read without a fault, behind the scripts there are, is one of them now. */
    private int adoptScript() {
        tape.length = 0;
        scriptCount++;
        return scriptCount - 1;
    }

    // ---- what the lexicon and the holes are

    public int rule(int what) {
        if (!hasLexicon) {
            return NONE;
        }
        switch (what) {
            case 0:
                return lexicon.nouns;
            case 1:
                return lexicon.messages;
            case 2:
                return wordsIn(lexicon.articles, 0, lexicon.articles.length);
            case 3:
                return wordsIn(lexicon.pronouns, 0, lexicon.pronouns.length);
            case 4:
                return wordsIn(state.cells, 0, State.FIRST_HOLE);
            case 5:
                return state.isStrict() ? 1 : 0;
            case 6:
                return teller.tellableBits();
            default:
                return NONE;
        }
    }

    public int noun(int noun, int what) throws NoSuchElementException {
        if (!hasNoun(noun) || what < 0 || what > 2) {
            throw new NoSuchElementException();
        }
        if (what == 0) {
            return lexicon.kinds[noun];
        }
        return what == 1 ? lettersOf(lexicon.nounNames[noun]) : formsToldOf(noun);
    }

    public int form(int noun, int kase, int number, int i) {
        if (!hasNoun(noun) || !isSlot(kase, number)) {
            return NONE;
        }
        return lettersOrOne(teller.formOf(noun, kase, number), i);
    }

    public int byDefault(int noun, int kase, int number) {
        if (!hasNoun(noun) || !isSlot(kase, number)) {
            return NONE;
        }
        return state.defaultOf(noun, kase, number);
    }

    public int word(boolean pronoun, int kase, int number, int kind, int i) {
        if (!hasLexicon || !isSlot(kase, number) || kind < 0 || kind >= KINDS) {
            return NONE;
        }
        long[] table = pronoun ? lexicon.pronouns : lexicon.articles;
        return lettersOrOne(Lexicon.boundWord(table, kase, number, kind), i);
    }

    public int hole(int hole, int what) {
        if (!hasLexicon || !isHole(hole) || state.isOpen(hole)) {
            return NONE;
        }
        switch (what) {
            case 0:
                return state.nounIn(hole);
            case 1:
                return state.countIn(hole);
            case 2:
                return state.numberIn(hole);
            default:
                return NONE;
        }
    }

    // ---- what the messages tell

    public int message(int message, int what) {
        if (!hasMessage(message)) {
            return NONE;
        }
        switch (what) {
            case 0:
                return lexicon.itemCounts[message];
            case 1:
                return lexicon.holesAskedBy(message);
            case 2:
                return teller.canTell(message) ? 1 : 0;
            case 3:
                return teller.bytesTold(message);
            default:
                return NONE;
        }
    }

    public int told(int message, int i) {
        if (!hasMessage(message)) {
            return NONE;
        }
        int bytes = teller.bytesTold(message);
        return i >= 0 && i < bytes ? teller.line[i] : NONE;
    }

    public int why(int message, int what) {
        if (!hasMessage(message) || teller.canTell(message)) {
            return NONE;
        }
        switch (what) {
            case 0:
                return teller.badItem;
            case 1:
                return teller.badHole;
            case 2:
                return teller.badWhy;
            default:
                return NONE;
        }
    }

    // ---- what is asked apart

    public int missing(int message, int i, int what) {
        if (!hasMessage(message)) {
            return NONE;
        }
        if (i == NONE) {
            return teller.missingOf(message);
        }
        int item = teller.missingItem(message, i);
        if (item == NONE) {
            return NONE;
        }
        int hole = lexicon.holes[item];
        int kase = lexicon.seconds[item];
        switch (what) {
            case 0:
                return state.nounIn(hole);
            case 1:
                return kase;
            case 2:
                return state.numberIn(hole);
            case 3:
                return state.defaultOf(state.nounIn(hole), kase, state.numberIn(hole));
            default:
                return NONE;
        }
    }

    public int bare(int noun) {
        if (!hasNoun(noun)) {
            return NONE;
        }
        int bits = 0;
        for (int i = 0; i < FORMS; i++) {
            if (state.cells[noun * FORMS + i] == 0) {
                bits |= 1 << i;
            }
        }
        return bits;
    }

    public int fits(int message, int hole) {
        if (!hasMessage(message) || !isHole(hole)) {
            return NONE;
        }
        int cases = lexicon.casesAskedBy(message, 1 << hole);
        int bits = 0;
        for (int noun = 0; noun < lexicon.nouns; noun++) {
            if (formsLacking(noun, cases) == 0) {
                bits |= 1 << noun;
            }
        }
        return bits;
    }

    public int needs(int message) {
        if (!hasMessage(message)) {
            return NONE;
        }
        // every noun must fit every hole, so it does not matter which hole asks a case
        int cases = lexicon.casesAskedBy(message, (1 << HOLES) - 1);
        int lacking = 0;
        for (int noun = 0; noun < lexicon.nouns; noun++) {
            lacking += formsLacking(noun, cases);
        }
        return lacking;
    }

    /** How many forms of a noun are not told in the cases (bits), both numbers of each. */
    private int formsLacking(int noun, int cases) {
        int lacking = 0;
        for (int i = 0; i < FORMS; i++) {
            boolean asked = (cases >> (i / NUMBERS) & 1) != 0;
            if (asked && state.cells[noun * FORMS + i] == 0) {
                lacking++;
            }
        }
        return lacking;
    }

    public int alike(int noun) {
        if (!hasNoun(noun)) {
            return NONE;
        }
        int unlike = 0;
        for (int i = 0; i < FORMS; i++) {
            // a form is counted where it stands first
            int below = (1 << i) - 1;
            if ((slotsOf(noun, teller.formAt(noun, i)) & below) == 0) {
                unlike++;
            }
        }
        return unlike;
    }

    public int canBe(int noun) {
        if (!hasNoun(noun)) {
            return NONE;
        }
        long word = cursor.wordAlone();
        return word == 0 ? 0 : slotsOf(noun, word);
    }

    /** Where (bits) a noun's form, with defaults, is the word. */
    private int slotsOf(int noun, long word) {
        int bits = 0;
        for (int i = 0; i < FORMS; i++) {
            if (teller.formAt(noun, i) == word) {
                bits |= 1 << i;
            }
        }
        return bits;
    }

    public int guess(int message, int what) {
        if (!hasMessage(message) || what < NONE || what >= 2 * HOLES) {
            return NONE;
        }
        int asked = lexicon.holesAskedBy(message);
        aside.copyFrom(state);
        int found = countGuesses(message, asked);
        int answer = found == 0 ? NONE : found;
        if (found > 0 && what != NONE) {
            fillByGuess(asked, firstGuess);
            answer = guessedIn(asked, what);
        }
        state.copyFrom(aside);
        return answer;
    }

    /** Counts the fillings that tell the tape; leaves the first one's number in firstGuess. */
    private int countGuesses(int message, int asked) {
        int fillings = 1;
        for (int hole = 0; hole < HOLES; hole++) {
            if ((asked >> hole & 1) != 0) {
                fillings *= 2 * lexicon.nouns;
            }
        }
        int found = 0;
        for (int guessed = 0; guessed < fillings; guessed++) {
            fillByGuess(asked, guessed);
            if (teller.tellsAs(message, tape)) {
                if (found == 0) {
                    firstGuess = guessed;
                }
                found++;
            }
        }
        return found;
    }

    /** Guesses are numbered so that hole 0 changes slowest, in a hole the noun ahead of the count. */
    private void fillByGuess(int asked, int guessed) {
        int choices = 2 * lexicon.nouns;
        if (choices == 0) {
            return;
        }
        int rest = guessed;
        for (int hole = HOLES - 1; hole >= 0; hole--) {
            if ((asked >> hole & 1) != 0) {
                int choice = rest % choices;
                rest /= choices;
                state.cells[State.FIRST_HOLE + hole] = State.filling(choice / 2, 1 + choice % 2);
            }
        }
    }

    private int guessedIn(int asked, int what) {
        int hole = what % HOLES;
        if ((asked >> hole & 1) == 0) {
            return NONE;
        }
        return what < HOLES ? state.nounIn(hole) : state.countIn(hole);
    }

    // ---- acts

    public int fill(int hole, int noun, int count) {
        own.set(FILLED, hole, noun, count, 0);
        return act(own, true) ? state.numberIn(hole) : NONE;
    }

    public int empty(int hole) {
        int noun = hasLexicon && isHole(hole) && !state.isOpen(hole) ? state.nounIn(hole) : NONE;
        own.set(EMPTIED, hole, 0, 0, 0);
        return act(own, true) ? noun : NONE;
    }

    public int strict(int is) {
        own.set(STRICTNESS, is, 0, 0, 0);
        return act(own, true) ? tellable() : NONE;
    }

    public int tell(int noun, int kase, int number) {
        own.set(FORM_TOLD, noun, kase, number, cursor.wordAlone());
        if (!act(own, true)) {
            return NONE;
        }
        tape.length = 0;
        return formsToldOf(noun);
    }

    public int drop(int noun, int kase, int number) {
        own.set(DROPPED, noun, kase, number, 0);
        return act(own, true) ? formsToldOf(noun) : NONE;
    }

    public int ways(int n, long seed) {
        if (!hasLexicon || n < 1 || n > MOST_WAYS) {
            return NONE;
        }
        draws.x = seed;
        for (int i = 0; i < n; i++) {
            draws.drawStep(own, lexicon.nouns);
            act(own, false);
        }
        return tellable();
    }

    public int status(int what) {
        return what >= 0 && what < REFUSALS ? refused[what] : NONE;
    }

    public int undo() {
        if (history.undoable == 0) {
            return NONE;
        }
        history.undoLatest(state);
        return history.undoable;
    }

    public int log(int i, int what) {
        if (i < 0 || i >= history.logged()) {
            return HIDDEN;
        }
        int row = history.rowAt(i);
        switch (what) {
            case 0:
                return History.sortIn(row);
            case 1:
                return History.numberIn(row);
            case 2:
                return History.tellableIn(row);
            default:
                return HIDDEN;
        }
    }

    public int would(int hole, int noun, int count) {
        own.set(FILLED, hole, noun, count, 0);
        if (refusalOf(own) != NONE) {
            return NONE;
        }
        aside.copyFrom(state);
        state.cells[own.cell()] = own.value();
        int bits = teller.tellableBits();
        state.copyFrom(aside);
        return bits;
    }

    /** Does what the step tells, as an act; false: it can't be (STATUS counts that, if asked to). */
    private boolean act(Step step, boolean counted) {
        int refusal = refusalOf(step);
        if (refusal != NONE) {
            if (counted) {
                refused[refusal]++;
            }
            return false;
        }
        int cell = step.cell();
        history.remember(cell, state.cells[cell]);
        state.cells[cell] = step.value();
        history.addRow(step.sort, step.a, Integer.bitCount(teller.tellableBits()));
        return true;
    }

    private int tellable() {
        return Integer.bitCount(teller.tellableBits());
    }

    /** As what STATUS counts a step that can't be; NONE: it can be. */
    private int refusalOf(Step step) {
        if (!hasLexicon) {
            return NO_SUCH_ONE;
        }
        int refusal = boundsRefusal(step);
        if (refusal != NONE) {
            return refusal;
        }
        return state.cells[step.cell()] == step.value() ? IS_SO : NONE;
    }

    private int boundsRefusal(Step step) {
        switch (step.sort) {
            case FILLED:
                if (!isHole(step.a) || !hasNoun(step.b)) {
                    return NO_SUCH_ONE;
                }
                return step.c < 0 || step.c > MOST_COUNT ? OUT_OF_BOUNDS : NONE;
            case EMPTIED:
                return isHole(step.a) ? NONE : NO_SUCH_ONE;
            case STRICTNESS:
                return step.a < 0 || step.a > 1 ? OUT_OF_BOUNDS : NONE;
            default:
                if (!hasNoun(step.a)) {
                    return NO_SUCH_ONE;
                }
                boolean lacksWord = step.sort == FORM_TOLD && step.word == 0;
                return !isSlot(step.b, step.c) || lacksWord ? OUT_OF_BOUNDS : NONE;
        }
    }

    // ---- scripts

    public int step(int script, int i, int what) {
        if (!hasScript(script) || i < 0 || i >= scripts[script].length) {
            return HIDDEN;
        }
        Step step = scripts[script].steps[i];
        switch (what) {
            case 0:
                return step.sort;
            case 1:
                return step.a;
            case 2:
                return step.hasThreeNumbers() ? step.b : HIDDEN;
            case 3:
                return step.hasThreeNumbers() ? step.c : HIDDEN;
            case 4:
                return lettersOf(step.word);
            default:
                return HIDDEN;
        }
    }

    public int run(int script, int what) {
        if (!hasLexicon || !hasScript(script) || what < 0 || what > 1) {
            return HIDDEN;
        }
        Script steps = scripts[script];
        aside.copyFrom(state);
        int behind = 0;
        while (behind < steps.length && refusalOf(steps.steps[behind]) == NONE) {
            Step step = steps.steps[behind];
            state.cells[step.cell()] = step.value();
            behind++;
        }
        int toldThen = tellable();
        state.copyFrom(aside);
        if (what == 1) {
            return toldThen;
        }
        return behind == steps.length ? NONE : behind;
    }

    public int perform(int script) {
        if (!hasLexicon || !hasScript(script)) {
            return NONE;
        }
        Script steps = scripts[script];
        int behind = 0;
        while (behind < steps.length && act(steps.steps[behind], false)) {
            behind++;
        }
        return behind;
    }

    // ---- all together

    public int most(int what) {
        if (!hasLexicon) {
            return HIDDEN;
        }
        switch (what) {
            case 0:
                return teller.longest();
            case 1:
                int longest = teller.longest();
                return longest == NONE ? 0 : teller.bytesTold(longest);
            case 2:
                return missingOfAll();
            case 3:
                return nounOfFewestForms();
            case 4:
                return filledHoles();
            case 5:
                return formsToldTwice();
            default:
                return what >= 6 && what <= 10 ? teller.messagesWithWhy(what - 6) : HIDDEN;
        }
    }

    private int missingOfAll() {
        int all = 0;
        for (int message = 0; message < lexicon.messages; message++) {
            all += teller.missingOf(message);
        }
        return all;
    }

    private int nounOfFewestForms() {
        int best = 0;
        for (int noun = 1; noun < lexicon.nouns; noun++) {
            if (formsToldOf(noun) < formsToldOf(best)) {
                best = noun;
            }
        }
        return best;
    }

    private int filledHoles() {
        int bits = 0;
        for (int hole = 0; hole < HOLES; hole++) {
            if (!state.isOpen(hole)) {
                bits |= 1 << hole;
            }
        }
        return bits;
    }

    private int formsToldTwice() {
        int twice = 0;
        for (int cell = 0; cell < State.FIRST_HOLE; cell++) {
            if (state.cells[cell] != 0 && hasTwin(cell)) {
                twice++;
            }
        }
        return twice;
    }

    private boolean hasTwin(int cell) {
        int first = cell - cell % FORMS;
        for (int other = first; other < first + FORMS; other++) {
            if (other != cell && state.cells[other] == state.cells[cell]) {
                return true;
            }
        }
        return false;
    }

    public int image() {
        if (!hasLexicon) {
            return NONE;
        }
        imageState.copyFrom(state);
        imageHistory.copyLogFrom(history);
        hasImage = true;
        return tellable();
    }

    public int back() {
        if (!hasLexicon || !hasImage) {
            return NONE;
        }
        state.copyFrom(imageState);
        history.copyLogFrom(imageHistory);
        return tellable();
    }

    public int count(int what) {
        switch (what) {
            case 0:
                return lexicon.nouns;
            case 1:
                return scriptCount;
            case 2:
                return tape.length;
            case 3:
                return history.logged();
            case 4:
                return history.undoable;
            default:
                return HIDDEN;
        }
    }

    // ---- what is there

    private boolean hasNoun(int noun) {
        return noun >= 0 && noun < lexicon.nouns;
    }

    private boolean hasMessage(int message) {
        return message >= 0 && message < lexicon.messages;
    }

    private boolean hasScript(int script) {
        return script >= 0 && script < scriptCount;
    }

    private static boolean isHole(int hole) {
        return hole >= 0 && hole < HOLES;
    }

    private static boolean isSlot(int kase, int number) {
        return kase >= 0 && kase < CASES && number >= 0 && number < NUMBERS;
    }

    private int formsToldOf(int noun) {
        return wordsIn(state.cells, noun * FORMS, (noun + 1) * FORMS);
    }

    // ---- words as numbers

    private static int wordsIn(long[] row, int from, int to) {
        int words = 0;
        for (int i = from; i < to && i < row.length; i++) {
            if (row[i] != 0) {
                words++;
            }
        }
        return words;
    }

    private static int lettersOf(long word) {
        int letters = 0;
        while (letters < MOST_LETTERS && letterOf(word, letters) != 0) {
            letters++;
        }
        return letters;
    }

    private static int letterOf(long word, int i) {
        return (int) (word >>> (8 * i)) & 255;
    }

    /** How many letters (i NONE), the i-th, or NONE. */
    private static int lettersOrOne(long word, int i) {
        int letters = lettersOf(word);
        if (i == NONE) {
            return letters;
        }
        return i >= 0 && i < letters ? letterOf(word, i) : NONE;
    }

    /** The bytes that were fed. */
    private static final class Tape {
        final char[] bytes;
        int length;

        Tape() {
            bytes = new char[MOST_BYTES];
        }

        static int bytesIn(int number) {
            int bytes = 0;
            for (int shift = 24; shift >= 0; shift -= 8) {
                if ((number >>> shift & 255) != 0) {
                    bytes++;
                }
            }
            return bytes;
        }

        void add(int number) {
            for (int shift = 24; shift >= 0; shift -= 8) {
                int next = number >>> shift & 255;
                if (next != 0 && length < bytes.length) {
                    bytes[length] = (char) next;
                    length++;
                }
            }
        }
    }

    /** Reads the parts of a text from the tape; where one can't be, that place is kept. */
    private static final class Cursor {
        private final Tape tape;
        int at;
        int start;
        int failedAt;
        int number;
        long word;

        Cursor(Tape tape) {
            this.tape = tape;
        }

        void rewind() {
            at = 0;
        }

        boolean fail(int place) {
            failedAt = place;
            return false;
        }

        void skipBlanks() {
            while (at < tape.length && tape.bytes[at] == ' ') {
                at++;
            }
        }

        boolean isAtEnd() {
            skipBlanks();
            return at >= tape.length;
        }

        /** The sign that comes next; 0: the text ends. */
        char nextSign() {
            skipBlanks();
            return at < tape.length ? tape.bytes[at] : 0;
        }

        boolean takeWord() {
            skipBlanks();
            start = at;
            word = 0;
            while (at < tape.length && tape.bytes[at] >= 'a' && tape.bytes[at] <= 'z') {
                int letters = at - start;
                if (letters < MOST_LETTERS) {
                    word |= (long) tape.bytes[at] << (8 * letters);
                }
                at++;
            }
            return at > start && at - start <= MOST_LETTERS || fail(start);
        }

        boolean takeNumber(int mostDigits, int highest) {
            skipBlanks();
            start = at;
            number = 0;
            while (at < tape.length && tape.bytes[at] >= '0' && tape.bytes[at] <= '9') {
                if (at - start < mostDigits) {
                    number = number * 10 + tape.bytes[at] - '0';
                }
                at++;
            }
            boolean fits = at > start && at - start <= mostDigits && number <= highest;
            return fits || fail(start);
        }

        /** Whether the word that was taken last is this one. */
        boolean wordIs(String text) {
            if (at - start != text.length()) {
                return false;
            }
            for (int i = 0; i < text.length(); i++) {
                if (tape.bytes[start + i] != text.charAt(i)) {
                    return false;
                }
            }
            return true;
        }

        /** The one word that the tape is, blanks aside; 0: it is none. */
        long wordAlone() {
            rewind();
            return takeWord() && isAtEnd() ? word : 0;
        }
    }

    /** Reads the tape as a lexicon, into a draft: only a text without a fault becomes the lexicon. */
    private static final class LexiconReader {
        private final Cursor cursor;
        final Lexicon draft;

        LexiconReader(Cursor cursor) {
            this.cursor = cursor;
            draft = new Lexicon();
        }

        int findFault() {
            draft.clear();
            cursor.rewind();
            for (int clauses = 0; clauses <= MOST_BYTES; clauses++) {
                if (!readClause()) {
                    return cursor.failedAt;
                }
                if (cursor.isAtEnd()) {
                    return draft.nouns == 0 ? cursor.at : NONE;
                }
                if (cursor.nextSign() != ';') {
                    return cursor.at;
                }
                cursor.at++;
            }
            return cursor.at;
        }

        private boolean readClause() {
            if (!cursor.takeWord()) {
                return false;
            }
            int begin = cursor.start;
            if (cursor.wordIs("noun")) {
                return readNoun(begin);
            }
            if (cursor.wordIs("form")) {
                return readForm(begin);
            }
            if (cursor.wordIs("article")) {
                return readBoundWord(begin, draft.articles);
            }
            if (cursor.wordIs("pronoun")) {
                return readBoundWord(begin, draft.pronouns);
            }
            if (cursor.wordIs("message")) {
                return readMessage(begin);
            }
            return cursor.fail(begin);
        }

        private boolean readNoun(int begin) {
            int noun = draft.nouns;
            if (noun >= MOST_NOUNS) {
                return cursor.fail(begin);
            }
            if (!cursor.takeWord()) {
                return false;
            }
            if (draft.nounNamed(cursor.word) != NONE) {
                return cursor.fail(cursor.start);
            }
            draft.nounNames[noun] = cursor.word;
            if (!cursor.takeNumber(1, KINDS - 1)) {
                return false;
            }
            draft.kinds[noun] = cursor.number;
            draft.nouns++;
            return true;
        }

        private boolean readForm(int begin) {
            if (!cursor.takeWord()) {
                return false;
            }
            int noun = draft.nounNamed(cursor.word);
            if (noun == NONE) {
                return cursor.fail(cursor.start);
            }
            if (!cursor.takeNumber(1, CASES - 1)) {
                return false;
            }
            int kase = cursor.number;
            if (!cursor.takeNumber(1, NUMBERS - 1)) {
                return false;
            }
            return readWordOnce(begin, draft.forms, State.formCell(noun, kase, cursor.number));
        }

        private boolean readBoundWord(int begin, long[] table) {
            if (!cursor.takeNumber(1, CASES - 1)) {
                return false;
            }
            int kase = cursor.number;
            if (!cursor.takeNumber(1, NUMBERS - 1)) {
                return false;
            }
            int number = cursor.number;
            if (!cursor.takeNumber(1, KINDS - 1)) {
                return false;
            }
            return readWordOnce(begin, table, Lexicon.boundSlot(kase, number, cursor.number));
        }

        /** What was told already can't be told again, whatever comes as its text. */
        private boolean readWordOnce(int begin, long[] table, int slot) {
            if (table[slot] != 0) {
                return cursor.fail(begin);
            }
            if (!cursor.takeWord()) {
                return false;
            }
            table[slot] = cursor.word;
            return true;
        }

        private boolean readMessage(int begin) {
            int message = draft.messages;
            if (message >= MOST_MESSAGES) {
                return cursor.fail(begin);
            }
            if (!cursor.takeWord()) {
                return false;
            }
            if (draft.messageNamed(cursor.word) != NONE) {
                return cursor.fail(cursor.start);
            }
            draft.messageNames[message] = cursor.word;
            // a ninth item is left to the caller, who looks for the end of the clause
            int items = 0;
            while (items < MOST_ITEMS && (items == 0 || !isAtClauseEnd())) {
                if (!readItem(message * MOST_ITEMS + items)) {
                    return false;
                }
                items++;
            }
            draft.itemCounts[message] = items;
            draft.messages++;
            return true;
        }

        private boolean isAtClauseEnd() {
            char sign = cursor.nextSign();
            return sign == 0 || sign == ';';
        }

        private boolean readItem(int item) {
            char sign = cursor.nextSign();
            if (!isItemSign(sign)) {
                boolean taken = cursor.takeWord();
                draft.signs[item] = PLAIN_WORD;
                draft.words[item] = cursor.word;
                return taken;
            }
            cursor.at++;
            draft.signs[item] = sign;
            if (!cursor.takeNumber(1, HOLES - 1)) {
                return false;
            }
            draft.holes[item] = cursor.number;
            if (sign == COUNT) {
                return true;
            }
            boolean isPair = sign == SAME_NUMBER || sign == SAME_KIND;
            if (!cursor.takeNumber(1, isPair ? HOLES - 1 : CASES - 1)) {
                return false;
            }
            draft.seconds[item] = cursor.number;
            return !isPair || cursor.number != draft.holes[item] || cursor.fail(cursor.start);
        }

        private static boolean isItemSign(char sign) {
            switch (sign) {
                case NOUN_FORM:
                case ARTICLE_AND_FORM:
                case PRONOUN:
                case COUNT:
                case SAME_NUMBER:
                case SAME_KIND:
                    return true;
                default:
                    return false;
            }
        }
    }

    /** Reads the tape as a script. */
    private static final class ScriptReader {
        private static final int HIGHEST_NOUN = 9;

        private final Cursor cursor;

        ScriptReader(Cursor cursor) {
            this.cursor = cursor;
        }

        int findFault(Script script) {
            cursor.rewind();
            for (int i = 0; i < MOST_STEPS; i++) {
                if (!readStep(script.steps[i])) {
                    return cursor.failedAt;
                }
                script.length = i + 1;
                if (cursor.isAtEnd()) {
                    return NONE;
                }
                if (script.length == MOST_STEPS || cursor.nextSign() != ';') {
                    return cursor.at;
                }
                cursor.at++;
            }
            return cursor.at;
        }

        private boolean readStep(Step step) {
            if (!cursor.takeWord()) {
                return false;
            }
            step.set(NONE, 0, 0, 0, 0);
            if (cursor.wordIs("fill")) {
                step.sort = FILLED;
                return readA(step, HOLES - 1) && readB(step, HIGHEST_NOUN) && readCount(step);
            }
            if (cursor.wordIs("empty")) {
                step.sort = EMPTIED;
                return readA(step, HOLES - 1);
            }
            if (cursor.wordIs("strict")) {
                step.sort = STRICTNESS;
                return readA(step, 1);
            }
            if (cursor.wordIs("form")) {
                step.sort = FORM_TOLD;
                return readSlot(step) && readWord(step);
            }
            if (cursor.wordIs("drop")) {
                step.sort = DROPPED;
                return readSlot(step);
            }
            return cursor.fail(cursor.start);
        }

        private boolean readA(Step step, int highest) {
            boolean taken = cursor.takeNumber(1, highest);
            step.a = cursor.number;
            return taken;
        }

        private boolean readB(Step step, int highest) {
            boolean taken = cursor.takeNumber(1, highest);
            step.b = cursor.number;
            return taken;
        }

        private boolean readCount(Step step) {
            boolean taken = cursor.takeNumber(2, MOST_COUNT);
            step.c = cursor.number;
            return taken;
        }

        /** A noun, a case, a number. */
        private boolean readSlot(Step step) {
            if (!readA(step, HIGHEST_NOUN) || !readB(step, CASES - 1)) {
                return false;
            }
            boolean taken = cursor.takeNumber(1, NUMBERS - 1);
            step.c = cursor.number;
            return taken;
        }

        private boolean readWord(Step step) {
            boolean taken = cursor.takeWord();
            step.word = cursor.word;
            return taken;
        }
    }

    /** What a lexicon's text tells; its forms are those at first, the state has those of now. */
    private static final class Lexicon {
        int nouns;
        final long[] nounNames;
        final int[] kinds;
        final long[] forms;
        final long[] articles;
        final long[] pronouns;
        int messages;
        final long[] messageNames;
        final int[] itemCounts;
        final char[] signs;
        final int[] holes;
        /** The item's case, or the second hole of = and !. */
        final int[] seconds;
        final long[] words;

        Lexicon() {
            nounNames = new long[MOST_NOUNS];
            kinds = new int[MOST_NOUNS];
            forms = new long[MOST_NOUNS * FORMS];
            articles = new long[FORMS * KINDS];
            pronouns = new long[FORMS * KINDS];
            messageNames = new long[MOST_MESSAGES];
            itemCounts = new int[MOST_MESSAGES];
            signs = new char[MOST_MESSAGES * MOST_ITEMS];
            holes = new int[MOST_MESSAGES * MOST_ITEMS];
            seconds = new int[MOST_MESSAGES * MOST_ITEMS];
            words = new long[MOST_MESSAGES * MOST_ITEMS];
        }

        /** Names, items and kinds beyond the counts are never looked at and may stay. */
        void clear() {
            nouns = 0;
            messages = 0;
            clearRow(forms);
            clearRow(articles);
            clearRow(pronouns);
        }

        private static void clearRow(long[] row) {
            for (int i = 0; i < row.length; i++) {
                row[i] = 0;
            }
        }

        void copyFrom(Lexicon other) {
            nouns = other.nouns;
            messages = other.messages;
            System.arraycopy(other.nounNames, 0, nounNames, 0, nounNames.length);
            System.arraycopy(other.kinds, 0, kinds, 0, kinds.length);
            System.arraycopy(other.forms, 0, forms, 0, forms.length);
            System.arraycopy(other.articles, 0, articles, 0, articles.length);
            System.arraycopy(other.pronouns, 0, pronouns, 0, pronouns.length);
            System.arraycopy(other.messageNames, 0, messageNames, 0, messageNames.length);
            System.arraycopy(other.itemCounts, 0, itemCounts, 0, itemCounts.length);
            System.arraycopy(other.signs, 0, signs, 0, signs.length);
            System.arraycopy(other.holes, 0, holes, 0, holes.length);
            System.arraycopy(other.seconds, 0, seconds, 0, seconds.length);
            System.arraycopy(other.words, 0, words, 0, words.length);
        }

        int nounNamed(long name) {
            for (int i = 0; i < nouns; i++) {
                if (nounNames[i] == name) {
                    return i;
                }
            }
            return NONE;
        }

        int messageNamed(long name) {
            for (int i = 0; i < messages; i++) {
                if (messageNames[i] == name) {
                    return i;
                }
            }
            return NONE;
        }

        static int boundSlot(int kase, int number, int kind) {
            return (kase * NUMBERS + number) * KINDS + kind;
        }

        /** An article or a pronoun; 0: it is left out. */
        static long boundWord(long[] table, int kase, int number, int kind) {
            long word = table[boundSlot(kase, number, kind)];
            return word != 0 ? word : table[boundSlot(kase, number, 0)];
        }

        int holesAskedBy(int message) {
            int bits = 0;
            int first = message * MOST_ITEMS;
            for (int item = first; item < first + itemCounts[message]; item++) {
                if (signs[item] != PLAIN_WORD) {
                    bits |= 1 << holes[item];
                }
                if (signs[item] == SAME_NUMBER || signs[item] == SAME_KIND) {
                    bits |= 1 << seconds[item];
                }
            }
            return bits;
        }

        boolean asksForm(int item) {
            return signs[item] == NOUN_FORM || signs[item] == ARTICLE_AND_FORM;
        }

        /** The cases (bits) in which a message asks forms of nouns in these holes (bits). */
        int casesAskedBy(int message, int ofHoles) {
            int bits = 0;
            int first = message * MOST_ITEMS;
            for (int item = first; item < first + itemCounts[message]; item++) {
                if (asksForm(item) && (ofHoles >> holes[item] & 1) != 0) {
                    bits |= 1 << seconds[item];
                }
            }
            return bits;
        }
    }

    /** One act that may be done, with up to three numbers and a word. */
    private static final class Step {
        int sort;
        int a;
        int b;
        int c;
        long word;

        void set(int sort, int a, int b, int c, long word) {
            this.sort = sort;
            this.a = a;
            this.b = b;
            this.c = c;
            this.word = word;
        }

        boolean hasThreeNumbers() {
            return sort == FILLED || sort == FORM_TOLD || sort == DROPPED;
        }

        /** Which cell of the state it changes; its numbers must have been looked at. */
        int cell() {
            switch (sort) {
                case FILLED:
                case EMPTIED:
                    return State.FIRST_HOLE + a;
                case STRICTNESS:
                    return State.STRICT_CELL;
                default:
                    return State.formCell(a, b, c);
            }
        }

        /** What that cell holds then. */
        long value() {
            switch (sort) {
                case FILLED:
                    return State.filling(b, c);
                case STRICTNESS:
                    return a;
                case FORM_TOLD:
                    return word;
                default:
                    return 0;
            }
        }
    }

    private static final class Script {
        int length;
        final Step[] steps;

        Script() {
            steps = new Step[MOST_STEPS];
            for (int i = 0; i < steps.length; i++) {
                steps[i] = new Step();
            }
        }
    }

    /**
     * All that acts change but the log, one number a cell: the forms (a word, 0 none), the holes
     * (0 empty, else a filling), whether it is strict. An act changes one cell.
     */
    private static final class State {
        static final int FIRST_HOLE = MOST_NOUNS * FORMS;
        static final int STRICT_CELL = FIRST_HOLE + HOLES;
        private static final int COUNTS = MOST_COUNT + 1;

        final long[] cells;

        State() {
            cells = new long[STRICT_CELL + 1];
        }

        static int formCell(int noun, int kase, int number) {
            return noun * FORMS + kase * NUMBERS + number;
        }

        static long filling(int noun, int count) {
            return 1 + noun * COUNTS + count;
        }

        void beginWith(Lexicon lexicon) {
            System.arraycopy(lexicon.forms, 0, cells, 0, FIRST_HOLE);
            for (int i = FIRST_HOLE; i < cells.length; i++) {
                cells[i] = 0;
            }
        }

        void copyFrom(State other) {
            System.arraycopy(other.cells, 0, cells, 0, cells.length);
        }

        boolean isStrict() {
            return cells[STRICT_CELL] != 0;
        }

        boolean isOpen(int hole) {
            return cells[FIRST_HOLE + hole] == 0;
        }

        int nounIn(int hole) {
            return (int) (cells[FIRST_HOLE + hole] - 1) / COUNTS;
        }

        int countIn(int hole) {
            return (int) (cells[FIRST_HOLE + hole] - 1) % COUNTS;
        }

        int numberIn(int hole) {
            return (cells[FIRST_HOLE + hole] - 1) % COUNTS == 1 ? 0 : 1;
        }

        /** 0: the form is told; 1 to 3: which other one stands for it; 4: the name does. */
        int defaultOf(int noun, int kase, int number) {
            int first = noun * FORMS;
            int ofCase = first + kase * NUMBERS;
            if (cells[ofCase + number] != 0) {
                return 0;
            }
            if (cells[first + number] != 0) {
                return 1;
            }
            if (cells[ofCase] != 0) {
                return 2;
            }
            return cells[first] != 0 ? 3 : 4;
        }
    }

    /** Tells messages by the lexicon and the state as it is now, and finds why one can't be told. */
    private static final class Teller {
        private final Lexicon lexicon;
        private final State state;
        final char[] line;
        private int bytes;
        int badItem;
        int badHole;
        int badWhy;

        Teller(Lexicon lexicon, State state) {
            this.lexicon = lexicon;
            this.state = state;
            line = new char[MOST_LINE];
        }

        long formOf(int noun, int kase, int number) {
            switch (state.defaultOf(noun, kase, number)) {
                case 0:
                    return state.cells[State.formCell(noun, kase, number)];
                case 1:
                    return state.cells[State.formCell(noun, 0, number)];
                case 2:
                    return state.cells[State.formCell(noun, kase, 0)];
                case 3:
                    return state.cells[State.formCell(noun, 0, 0)];
                default:
                    return lexicon.nounNames[noun];
            }
        }

        long formAt(int noun, int slot) {
            return formOf(noun, slot / NUMBERS, slot % NUMBERS);
        }

        int tellableBits() {
            int bits = 0;
            for (int message = 0; message < lexicon.messages; message++) {
                if (canTell(message)) {
                    bits |= 1 << message;
                }
            }
            return bits;
        }

        /** Whether a message can be told; if not, badItem, badHole and badWhy say why. */
        boolean canTell(int message) {
            int first = message * MOST_ITEMS;
            for (int i = 0; i < lexicon.itemCounts[message]; i++) {
                if (!canTellItem(first + i)) {
                    badItem = i;
                    return false;
                }
            }
            return true;
        }

        private boolean refuse(int hole, int why) {
            badHole = hole;
            badWhy = why;
            return false;
        }

        private boolean canTellItem(int item) {
            char sign = lexicon.signs[item];
            if (sign == PLAIN_WORD) {
                return true;
            }
            int hole = lexicon.holes[item];
            if (state.isOpen(hole)) {
                return refuse(hole, WHY_EMPTY);
            }
            if (sign == SAME_NUMBER || sign == SAME_KIND) {
                return agree(sign, hole, lexicon.seconds[item]);
            }
            return sign == COUNT || !state.isStrict() || isAllTold(item);
        }

        private boolean agree(char sign, int hole, int other) {
            if (state.isOpen(other)) {
                return refuse(other, WHY_EMPTY);
            }
            if (sign == SAME_NUMBER) {
                return state.numberIn(hole) == state.numberIn(other) || refuse(other, WHY_NUMBERS);
            }
            int kind = lexicon.kinds[state.nounIn(hole)];
            int otherKind = lexicon.kinds[state.nounIn(other)];
            return kind == otherKind || refuse(other, WHY_KINDS);
        }

        /** Whether all that an item asks is told itself, not by a default. */
        private boolean isAllTold(int item) {
            char sign = lexicon.signs[item];
            int hole = lexicon.holes[item];
            int noun = state.nounIn(hole);
            int kase = lexicon.seconds[item];
            int number = state.numberIn(hole);
            long[] table = sign == PRONOUN ? lexicon.pronouns : lexicon.articles;
            long bound = table[Lexicon.boundSlot(kase, number, lexicon.kinds[noun])];
            if (sign != NOUN_FORM && bound == 0) {
                return refuse(hole, WHY_BOUND_WORD);
            }
            return sign == PRONOUN || state.defaultOf(noun, kase, number) == 0
                || refuse(hole, WHY_FORM);
        }

        /** An item's article or pronoun with defaults; 0: it is left out. */
        private long boundWordIn(int item) {
            int hole = lexicon.holes[item];
            int kind = lexicon.kinds[state.nounIn(hole)];
            long[] table = lexicon.signs[item] == PRONOUN ? lexicon.pronouns : lexicon.articles;
            return Lexicon.boundWord(table, lexicon.seconds[item], state.numberIn(hole), kind);
        }

        private int defaultIn(int item) {
            int hole = lexicon.holes[item];
            return state.defaultOf(state.nounIn(hole), lexicon.seconds[item], state.numberIn(hole));
        }

        private long formIn(int item) {
            int hole = lexicon.holes[item];
            return formOf(state.nounIn(hole), lexicon.seconds[item], state.numberIn(hole));
        }

        /** Tells a message into the line: by how many bytes; NONE: it can't be told. */
        int bytesTold(int message) {
            if (!canTell(message)) {
                return NONE;
            }
            bytes = 0;
            int first = message * MOST_ITEMS;
            for (int item = first; item < first + lexicon.itemCounts[message]; item++) {
                putItem(item);
            }
            return bytes;
        }

        /** Whether a message is told just as the tape; gives up at the first byte that is not. */
        boolean tellsAs(int message, Tape tape) {
            bytes = 0;
            int first = message * MOST_ITEMS;
            for (int item = first; item < first + lexicon.itemCounts[message]; item++) {
                if (!canTellItem(item)) {
                    return false;
                }
                int from = bytes;
                putItem(item);
                if (!isLineAs(tape, from)) {
                    return false;
                }
            }
            return bytes == tape.length;
        }

        private boolean isLineAs(Tape tape, int from) {
            if (bytes > tape.length) {
                return false;
            }
            for (int i = from; i < bytes; i++) {
                if (line[i] != tape.bytes[i]) {
                    return false;
                }
            }
            return true;
        }

        private void putItem(int item) {
            switch (lexicon.signs[item]) {
                case PLAIN_WORD:
                    putWord(lexicon.words[item]);
                    break;
                case NOUN_FORM:
                    putWord(formIn(item));
                    break;
                case ARTICLE_AND_FORM:
                    putWord(boundWordIn(item));
                    putWord(formIn(item));
                    break;
                case PRONOUN:
                    putWord(boundWordIn(item));
                    break;
                case COUNT:
                    putNumber(state.countIn(lexicon.holes[item]));
                    break;
                default:
                    break;
            }
        }

        private void putByte(int next) {
            if (bytes < line.length) {
                line[bytes] = (char) next;
                bytes++;
            }
        }

        private void putBlankBetween() {
            if (bytes > 0) {
                putByte(' ');
            }
        }

        private void putWord(long word) {
            if (word == 0) {
                return;
            }
            putBlankBetween();
            int letters = lettersOf(word);
            for (int i = 0; i < letters; i++) {
                putByte(letterOf(word, i));
            }
        }

        private void putNumber(int number) {
            putBlankBetween();
            if (number >= 10) {
                putByte('0' + number / 10);
            }
            putByte('0' + number % 10);
        }

        private boolean isMissing(int item) {
            return lexicon.asksForm(item) && !state.isOpen(lexicon.holes[item])
                && defaultIn(item) != 0;
        }

        int missingOf(int message) {
            int found = 0;
            int first = message * MOST_ITEMS;
            for (int item = first; item < first + lexicon.itemCounts[message]; item++) {
                if (isMissing(item)) {
                    found++;
                }
            }
            return found;
        }

        /** The i-th item whose form is missing, or NONE. */
        int missingItem(int message, int i) {
            int ahead = 0;
            int first = message * MOST_ITEMS;
            for (int item = first; item < first + lexicon.itemCounts[message]; item++) {
                if (isMissing(item)) {
                    if (ahead == i) {
                        return item;
                    }
                    ahead++;
                }
            }
            return NONE;
        }

        int longest() {
            int best = NONE;
            int bestBytes = NONE;
            for (int message = 0; message < lexicon.messages; message++) {
                int told = bytesTold(message);
                if (told > bestBytes) {
                    best = message;
                    bestBytes = told;
                }
            }
            return best;
        }

        int messagesWithWhy(int why) {
            int found = 0;
            for (int message = 0; message < lexicon.messages; message++) {
                if (!canTell(message) && badWhy == why) {
                    found++;
                }
            }
            return found;
        }
    }

    /**
     * The log and what is needed to undo acts. When an act is undone, the row that its own row
     * pushed out of the log stands in it again: so as many rows more are kept as acts can be undone.
     */
    private static final class History {
        private static final int ROWS = MOST_LOGGED + MOST_UNDONE;

        private final int[] rows;
        private int acts;
        private final int[] undoCells;
        private final long[] undoValues;
        int undoable;

        History() {
            rows = new int[ROWS];
            undoCells = new int[MOST_UNDONE];
            undoValues = new long[MOST_UNDONE];
        }

        void clear() {
            acts = 0;
            undoable = 0;
        }

        int logged() {
            return Math.min(acts, MOST_LOGGED);
        }

        /** To be called for each act ahead of addRow: what a cell held. */
        void remember(int cell, long value) {
            int place = acts % MOST_UNDONE;
            undoCells[place] = cell;
            undoValues[place] = value;
            undoable = Math.min(undoable + 1, MOST_UNDONE);
        }

        void addRow(int sort, int number, int tellable) {
            rows[acts % ROWS] = (sort * 10 + number) * 10 + tellable;
            acts++;
        }

        /** The latest row (i 0), the one ahead of it (1) ..; i must be below logged(). */
        int rowAt(int i) {
            return rows[(acts - 1 - i) % ROWS];
        }

        static int sortIn(int row) {
            return row / 100;
        }

        static int numberIn(int row) {
            return row / 10 % 10;
        }

        static int tellableIn(int row) {
            return row % 10;
        }

        void undoLatest(State state) {
            if (undoable == 0 || acts == 0) {
                return;
            }
            acts--;
            undoable--;
            int place = acts % MOST_UNDONE;
            state.cells[undoCells[place]] = undoValues[place];
        }

        /** The log as another one's; no act can be undone then. */
        void copyLogFrom(History other) {
            System.arraycopy(other.rows, 0, rows, 0, rows.length);
            acts = other.acts;
            undoable = 0;
        }
    }

    /** Draws by a seed. */
    private static final class Draws {
        private static final long FACTOR = 6364136223846793005L;
        private static final long ADDED = 1442695040888963407L;

        long x;

        private int next(int choices) {
            if (choices < 1) {
                return 0;
            }
            x = x * FACTOR + ADDED;
            return (int) ((x >>> 33) % choices);
        }

        void drawStep(Step step, int nouns) {
            int way = next(8);
            if (way < 4) {
                step.sort = FILLED;
                step.a = next(HOLES);
                step.b = next(nouns);
                step.c = next(4);
            } else if (way == 4) {
                step.sort = EMPTIED;
                step.a = next(HOLES);
            } else if (way == 5) {
                step.sort = STRICTNESS;
                step.a = next(2);
            } else {
                step.sort = way == 6 ? FORM_TOLD : DROPPED;
                step.a = next(nouns);
                step.b = next(CASES);
                step.c = next(NUMBERS);
                step.word = way == 6 ? drawWord() : 0;
            }
        }

        private long drawWord() {
            long word = 0;
            for (int i = 0; i < 3; i++) {
                word |= (long) ('a' + next(3)) << (8 * i);
            }
            return word;
        }
    }
}
