import java.util.ArrayList;
import java.util.Arrays;
import java.util.HashSet;
import java.util.LinkedHashMap;
import java.util.List;
import java.util.Map;
import java.util.NoSuchElementException;
import java.util.Set;

/**
 * The document written a second time, as plainly as the whole Java library allows: texts are Strings,
 * what acts change is copied whole for each act. ModelTest compares BentWords with it.
 */
final class Model {
    static final int N = -1;
    static final int H = -1000000;

    private static final class Fault extends RuntimeException {
        private static final long serialVersionUID = 1L;
        final int at;

        Fault(int at) {
            this.at = at;
        }
    }

    private record Token(char type, String text, int at) {
    }

    private record Item(char sign, int a, int b, String word) {
    }

    private record Act(int sort, int[] numbers, String word) {
    }

    private record Row(int sort, int number, int messages) {
    }

    private record Filling(int noun, int count) {
        int number() {
            return count == 1 ? 0 : 1;
        }
    }

    private record Why(int item, int hole, int what) {
    }

    private static final class Lexicon {
        final List<String> nouns = new ArrayList<>();
        final List<Integer> kinds = new ArrayList<>();
        final Map<String, String> words = new LinkedHashMap<>();
        final Map<String, List<Item>> messages = new LinkedHashMap<>();

        List<Item> items(int message) {
            return new ArrayList<>(messages.values()).get(message);
        }
    }

    /** All that acts change. */
    private static final class World {
        final Map<String, String> forms = new LinkedHashMap<>();
        final Filling[] holes = new Filling[3];
        boolean strict = false;
        List<Row> rows = new ArrayList<>();

        World copy() {
            World w = new World();
            w.forms.putAll(forms);
            System.arraycopy(holes, 0, w.holes, 0, 3);
            w.strict = strict;
            w.rows = new ArrayList<>(rows);
            return w;
        }
    }

    private String tape = "";
    private Lexicon lex = null;
    private World now = new World();
    private World kept = null;
    private final List<List<Act>> scripts = new ArrayList<>();
    private final List<World> past = new ArrayList<>();
    private final int[] refused = new int[3];

    // ---- texts

    private List<Token> tokens;
    private int next;

    private static boolean letter(char c) {
        return c >= 'a' && c <= 'z';
    }

    private static boolean digit(char c) {
        return c >= '0' && c <= '9';
    }

    private void cut(String text) {
        tokens = new ArrayList<>();
        next = 0;
        int i = 0;
        while (i < text.length()) {
            int j = i + 1;
            char c = text.charAt(i);
            if (letter(c)) {
                while (j < text.length() && letter(text.charAt(j))) {
                    j++;
                }
                tokens.add(new Token('w', text.substring(i, j), i));
            } else if (digit(c)) {
                while (j < text.length() && digit(text.charAt(j))) {
                    j++;
                }
                tokens.add(new Token('n', text.substring(i, j), i));
            } else if (c != ' ') {
                tokens.add(new Token(c == ';' || "#@%$=!".indexOf(c) >= 0 ? c : '?', "", i));
            }
            i = j;
        }
        tokens.add(new Token('.', "", text.length()));
    }

    private Token peek() {
        return tokens.get(next);
    }

    private Token take(char type) {
        Token t = peek();
        if (t.type != type) {
            throw new Fault(t.at);
        }
        if (type != '.') {
            next++;
        }
        return t;
    }

    private String takeWord() {
        Token t = take('w');
        if (t.text.length() > 8) {
            throw new Fault(t.at);
        }
        return t.text;
    }

    private int takeNumber(int digits, int highest) {
        Token t = take('n');
        if (t.text.length() > digits || Integer.parseInt(t.text) > highest) {
            throw new Fault(t.at);
        }
        return Integer.parseInt(t.text);
    }

    private Lexicon readLexicon() {
        cut(tape);
        Lexicon l = new Lexicon();
        clause(l);
        while (peek().type != '.') {
            take(';');
            clause(l);
        }
        if (l.nouns.isEmpty()) {
            throw new Fault(tape.length());
        }
        return l;
    }

    private void clause(Lexicon l) {
        int begin = peek().at;
        String word = takeWord();
        switch (word) {
            case "noun" -> {
                if (l.nouns.size() == 6) {
                    throw new Fault(begin);
                }
                int at = peek().at;
                String name = takeWord();
                if (l.nouns.contains(name)) {
                    throw new Fault(at);
                }
                int kind = takeNumber(1, 2);
                l.nouns.add(name);
                l.kinds.add(kind);
            }
            case "form" -> {
                int at = peek().at;
                String name = takeWord();
                if (!l.nouns.contains(name)) {
                    throw new Fault(at);
                }
                toldOnce(l, begin, "form " + l.nouns.indexOf(name) + " " + takeNumber(1, 3) + " "
                    + takeNumber(1, 1));
            }
            case "article", "pronoun" -> toldOnce(l, begin,
                word + " " + takeNumber(1, 3) + " " + takeNumber(1, 1) + " " + takeNumber(1, 2));
            case "message" -> {
                if (l.messages.size() == 4) {
                    throw new Fault(begin);
                }
                int at = peek().at;
                String name = takeWord();
                if (l.messages.containsKey(name)) {
                    throw new Fault(at);
                }
                List<Item> items = new ArrayList<>();
                do {
                    if (items.size() == 8) {
                        throw new Fault(peek().at);
                    }
                    items.add(item());
                } while (peek().type != ';' && peek().type != '.');
                l.messages.put(name, items);
            }
            default -> throw new Fault(begin);
        }
    }

    private void toldOnce(Lexicon l, int begin, String key) {
        if (l.words.containsKey(key)) {
            throw new Fault(begin);
        }
        l.words.put(key, takeWord());
    }

    private Item item() {
        char sign = peek().type;
        if ("#@%$=!".indexOf(sign) < 0) {
            return new Item('w', 0, 0, takeWord());
        }
        take(sign);
        int hole = takeNumber(1, 2);
        if (sign == '$') {
            return new Item(sign, hole, 0, "");
        }
        int at = peek().at;
        int b = takeNumber(1, "=!".indexOf(sign) >= 0 ? 2 : 3);
        if ("=!".indexOf(sign) >= 0 && b == hole) {
            throw new Fault(at);
        }
        return new Item(sign, hole, b, "");
    }

    private List<Act> readScript() {
        cut(tape);
        List<Act> acts = new ArrayList<>();
        acts.add(act());
        while (peek().type != '.') {
            if (acts.size() == 12) {
                throw new Fault(peek().at);
            }
            take(';');
            acts.add(act());
        }
        return acts;
    }

    private Act act() {
        int begin = peek().at;
        switch (takeWord()) {
            case "fill":
                return new Act(0, new int[] {takeNumber(1, 2), takeNumber(1, 9), takeNumber(2, 99)}, "");
            case "empty":
                return new Act(1, new int[] {takeNumber(1, 2)}, "");
            case "strict":
                return new Act(2, new int[] {takeNumber(1, 1)}, "");
            case "form":
                int[] n = {takeNumber(1, 9), takeNumber(1, 3), takeNumber(1, 1)};
                return new Act(3, n, takeWord());
            case "drop":
                return new Act(4, new int[] {takeNumber(1, 9), takeNumber(1, 3), takeNumber(1, 1)}, "");
            default:
                throw new Fault(begin);
        }
    }

    int feed(int a, int b, int c, int d, int e) {
        StringBuilder s = new StringBuilder(tape);
        for (int x : new int[] {a, b, c, d, e}) {
            for (int k = 3; k >= 0; k--) {
                int one = x >> (8 * k) & 255;
                if (one != 0) {
                    s.append((char) one);
                }
            }
        }
        if (s.length() > 480) {
            return N;
        }
        tape = s.toString();
        return tape.length();
    }

    boolean end(int n) {
        if (n < 0 || n > tape.length()) {
            return false;
        }
        tape = tape.substring(0, n);
        return true;
    }

    int fault(int sort) {
        if (sort != 0 && sort != 1) {
            return -2;
        }
        try {
            if (sort == 0) {
                readLexicon();
            } else {
                readScript();
            }
            return N;
        } catch (Fault f) {
            return f.at;
        }
    }

    int text(int sort) {
        if (fault(sort) != N || sort == 1 && scripts.size() == 4) {
            return N;
        }
        if (sort == 1) {
            scripts.add(readScript());
            tape = "";
            return scripts.size() - 1;
        }
        lex = readLexicon();
        tape = "";
        now = new World();
        kept = null;
        past.clear();
        for (Map.Entry<String, String> e : lex.words.entrySet()) {
            if (e.getKey().startsWith("form")) {
                now.forms.put(e.getKey(), e.getValue());
            }
        }
        return lex.nouns.size();
    }

    // ---- words

    private boolean noNoun(int noun) {
        return lex == null || noun < 0 || noun >= lex.nouns.size();
    }

    private boolean noMessage(int message) {
        return lex == null || message < 0 || message >= lex.messages.size();
    }

    private static boolean noSlot(int kase, int number) {
        return kase < 0 || kase > 3 || number < 0 || number > 1;
    }

    private static boolean out(int x, int to) {
        return x < 0 || x > to;
    }

    private static String key(int noun, int kase, int number) {
        return "form " + noun + " " + kase + " " + number;
    }

    private List<String> candidates(int noun, int kase, int number) {
        return Arrays.asList(now.forms.get(key(noun, kase, number)), now.forms.get(key(noun, 0, number)),
            now.forms.get(key(noun, kase, 0)), now.forms.get(key(noun, 0, 0)), lex.nouns.get(noun));
    }

    private int defaultOf(int noun, int kase, int number) {
        List<String> c = candidates(noun, kase, number);
        int i = 0;
        while (c.get(i) == null) {
            i++;
        }
        return i;
    }

    private String formOf(int noun, int kase, int number) {
        return candidates(noun, kase, number).get(defaultOf(noun, kase, number));
    }

    private String bound(String sort, int kase, int number, int kind) {
        String head = sort + " " + kase + " " + number + " ";
        return lex.words.getOrDefault(head + kind, lex.words.getOrDefault(head + 0, ""));
    }

    private boolean boundTold(String sort, int kase, int number, int kind) {
        return lex.words.containsKey(sort + " " + kase + " " + number + " " + kind);
    }

    private static int letters(String word, int i) {
        if (i == N) {
            return word.length();
        }
        return out(i, word.length() - 1) ? N : word.charAt(i);
    }

    private int formsOf(int noun) {
        return (int) now.forms.keySet().stream().filter(k -> k.startsWith("form " + noun + " ")).count();
    }

    int rule(int what) {
        if (lex == null) {
            return N;
        }
        switch (what) {
            case 0:
                return lex.nouns.size();
            case 1:
                return lex.messages.size();
            case 2:
                return (int) lex.words.keySet().stream().filter(k -> k.startsWith("art")).count();
            case 3:
                return (int) lex.words.keySet().stream().filter(k -> k.startsWith("pro")).count();
            case 4:
                return now.forms.size();
            case 5:
                return now.strict ? 1 : 0;
            case 6:
                return tellableBits();
            default:
                return N;
        }
    }

    int noun(int noun, int what) {
        if (noNoun(noun) || out(what, 2)) {
            throw new NoSuchElementException();
        }
        return new int[] {lex.kinds.get(noun), lex.nouns.get(noun).length(), formsOf(noun)}[what];
    }

    int form(int noun, int kase, int number, int i) {
        return noNoun(noun) || noSlot(kase, number) ? N : letters(formOf(noun, kase, number), i);
    }

    int byDefault(int noun, int kase, int number) {
        return noNoun(noun) || noSlot(kase, number) ? N : defaultOf(noun, kase, number);
    }

    int word(boolean pronoun, int kase, int number, int kind, int i) {
        if (lex == null || noSlot(kase, number) || out(kind, 2)) {
            return N;
        }
        return letters(bound(pronoun ? "pronoun" : "article", kase, number, kind), i);
    }

    int hole(int hole, int what) {
        if (lex == null || out(hole, 2) || out(what, 2) || now.holes[hole] == null) {
            return N;
        }
        Filling f = now.holes[hole];
        return new int[] {f.noun, f.count, f.number()}[what];
    }

    // ---- messages

    private Why whyOf(int message) {
        List<Item> items = lex.items(message);
        for (int i = 0; i < items.size(); i++) {
            Item it = items.get(i);
            boolean pair = "=!".indexOf(it.sign) >= 0;
            if (it.sign == 'w') {
                continue;
            }
            if (now.holes[it.a] == null) {
                return new Why(i, it.a, 0);
            }
            if (pair && now.holes[it.b] == null) {
                return new Why(i, it.b, 0);
            }
            Filling f = now.holes[it.a];
            if (it.sign == '=' && f.number() != now.holes[it.b].number()) {
                return new Why(i, it.b, 2);
            }
            int kind = lex.kinds.get(f.noun);
            if (it.sign == '!' && kind != lex.kinds.get(now.holes[it.b].noun)) {
                return new Why(i, it.b, 3);
            }
            if (!now.strict || pair) {
                continue;
            }
            if (it.sign == '@' && !boundTold("article", it.b, f.number(), kind)
                || it.sign == '%' && !boundTold("pronoun", it.b, f.number(), kind)) {
                return new Why(i, it.a, 4);
            }
            if ("#@".indexOf(it.sign) >= 0 && defaultOf(f.noun, it.b, f.number()) != 0) {
                return new Why(i, it.a, 1);
            }
        }
        return null;
    }

    /** The message as it is told, or null. */
    private String lineOf(int message) {
        if (whyOf(message) != null) {
            return null;
        }
        List<String> parts = new ArrayList<>();
        for (Item it : lex.items(message)) {
            if (it.sign == 'w') {
                parts.add(it.word);
                continue;
            }
            Filling f = now.holes[it.a];
            int kind = lex.kinds.get(f.noun);
            if (it.sign == '$') {
                parts.add("" + f.count);
            }
            if (it.sign == '@') {
                parts.add(bound("article", it.b, f.number(), kind));
            }
            if (it.sign == '%') {
                parts.add(bound("pronoun", it.b, f.number(), kind));
            }
            if ("#@".indexOf(it.sign) >= 0) {
                parts.add(formOf(f.noun, it.b, f.number()));
            }
        }
        parts.removeIf(String::isEmpty);
        return String.join(" ", parts);
    }

    private int tellableBits() {
        int bits = 0;
        for (int m = 0; m < lex.messages.size(); m++) {
            bits |= whyOf(m) == null ? 1 << m : 0;
        }
        return bits;
    }

    private int tellable() {
        return Integer.bitCount(tellableBits());
    }

    private int asked(int message) {
        int bits = 0;
        for (Item it : lex.items(message)) {
            bits |= it.sign == 'w' ? 0 : 1 << it.a;
            bits |= "=!".indexOf(it.sign) >= 0 ? 1 << it.b : 0;
        }
        return bits;
    }

    int message(int message, int what) {
        if (noMessage(message) || out(what, 3)) {
            return N;
        }
        String line = lineOf(message);
        return new int[] {lex.items(message).size(), asked(message), line == null ? 0 : 1,
            line == null ? N : line.length()}[what];
    }

    int told(int message, int i) {
        if (noMessage(message) || i < 0) {
            return N;
        }
        String line = lineOf(message);
        return line == null ? N : letters(line, i);
    }

    int why(int message, int what) {
        if (noMessage(message) || out(what, 2)) {
            return N;
        }
        Why w = whyOf(message);
        return w == null ? N : new int[] {w.item, w.hole, w.what}[what];
    }

    private List<int[]> missingOf(int message) {
        List<int[]> all = new ArrayList<>();
        for (Item it : lex.items(message)) {
            if ("#@".indexOf(it.sign) >= 0 && now.holes[it.a] != null) {
                Filling f = now.holes[it.a];
                int by = defaultOf(f.noun, it.b, f.number());
                if (by != 0) {
                    all.add(new int[] {f.noun, it.b, f.number(), by});
                }
            }
        }
        return all;
    }

    int missing(int message, int i, int what) {
        if (noMessage(message)) {
            return N;
        }
        List<int[]> all = missingOf(message);
        if (i == N) {
            return all.size();
        }
        return out(i, all.size() - 1) || out(what, 3) ? N : all.get(i)[what];
    }

    int bare(int noun) {
        if (noNoun(noun)) {
            return N;
        }
        int bits = 0;
        for (int i = 0; i < 8; i++) {
            bits |= now.forms.containsKey(key(noun, i / 2, i % 2)) ? 0 : 1 << i;
        }
        return bits;
    }

    int fits(int message, int hole) {
        if (noMessage(message) || out(hole, 2)) {
            return N;
        }
        int bits = 0;
        for (int noun = 0; noun < lex.nouns.size(); noun++) {
            boolean fits = true;
            for (Item it : lex.items(message)) {
                if ("#@".indexOf(it.sign) >= 0 && it.a == hole) {
                    fits &= defaultOf(noun, it.b, 0) == 0 && defaultOf(noun, it.b, 1) == 0;
                }
            }
            bits |= fits ? 1 << noun : 0;
        }
        return bits;
    }

    int needs(int message) {
        if (noMessage(message)) {
            return N;
        }
        Set<String> lacking = new HashSet<>();
        for (Item it : lex.items(message)) {
            for (int noun = 0; "#@".indexOf(it.sign) >= 0 && noun < lex.nouns.size(); noun++) {
                lacking.add(key(noun, it.b, 0));
                lacking.add(key(noun, it.b, 1));
            }
        }
        lacking.removeAll(now.forms.keySet());
        return lacking.size();
    }

    int alike(int noun) {
        if (noNoun(noun)) {
            return N;
        }
        Set<String> unlike = new HashSet<>();
        for (int i = 0; i < 8; i++) {
            unlike.add(formOf(noun, i / 2, i % 2));
        }
        return unlike.size();
    }

    private String tapeWord() {
        String w = tape.replaceAll("^ +| +$", "");
        return w.matches("[a-z]{1,8}") ? w : null;
    }

    int canBe(int noun) {
        if (noNoun(noun)) {
            return N;
        }
        int bits = 0;
        for (int i = 0; i < 8; i++) {
            bits |= formOf(noun, i / 2, i % 2).equals(tapeWord()) ? 1 << i : 0;
        }
        return bits;
    }

    int guess(int message, int what) {
        if (noMessage(message) || what < N || what > 5) {
            return N;
        }
        World real = now;
        now = now.copy();
        List<Filling[]> ways = new ArrayList<>();
        guessFrom(message, 0, ways);
        now = real;
        if (ways.isEmpty()) {
            return N;
        }
        if (what == N) {
            return ways.size();
        }
        if ((asked(message) >> what % 3 & 1) == 0) {
            return N;
        }
        Filling f = ways.get(0)[what % 3];
        return what < 3 ? f.noun : f.count;
    }

    private void guessFrom(int message, int hole, List<Filling[]> ways) {
        if (hole == 3) {
            if (tape.equals(lineOf(message))) {
                ways.add(now.holes.clone());
            }
            return;
        }
        if ((asked(message) >> hole & 1) == 0) {
            guessFrom(message, hole + 1, ways);
            return;
        }
        for (int noun = 0; noun < lex.nouns.size(); noun++) {
            for (int count = 1; count <= 2; count++) {
                now.holes[hole] = new Filling(noun, count);
                guessFrom(message, hole + 1, ways);
            }
        }
    }

    // ---- acts

    /** Why an act can't be (as STATUS), or NONE; if it can be, it is so then, without a row. */
    private int attempt(Act act) {
        int[] n = act.numbers;
        if (lex == null) {
            return 0;
        }
        switch (act.sort) {
            case 0:
                if (out(n[0], 2) || noNoun(n[1])) {
                    return 0;
                }
                if (out(n[2], 99)) {
                    return 1;
                }
                Filling f = new Filling(n[1], n[2]);
                if (f.equals(now.holes[n[0]])) {
                    return 2;
                }
                now.holes[n[0]] = f;
                return N;
            case 1:
                if (out(n[0], 2)) {
                    return 0;
                }
                if (now.holes[n[0]] == null) {
                    return 2;
                }
                now.holes[n[0]] = null;
                return N;
            case 2:
                if (out(n[0], 1)) {
                    return 1;
                }
                if (now.strict == (n[0] == 1)) {
                    return 2;
                }
                now.strict = n[0] == 1;
                return N;
            default:
                if (noNoun(n[0])) {
                    return 0;
                }
                if (noSlot(n[1], n[2]) || act.sort == 3 && act.word == null) {
                    return 1;
                }
                String key = key(n[0], n[1], n[2]);
                if (act.sort == 4) {
                    return now.forms.remove(key) == null ? 2 : N;
                }
                return act.word.equals(now.forms.put(key, act.word)) ? 2 : N;
        }
    }

    private int doIt(int sort, String word, int... numbers) {
        World before = now.copy();
        int refusal = attempt(new Act(sort, numbers, word));
        if (refusal != N) {
            return refusal;
        }
        past.add(before);
        if (past.size() > 40) {
            past.remove(0);
        }
        now.rows.add(0, new Row(sort, numbers[0], tellable()));
        if (now.rows.size() > 60) {
            now.rows.remove(60);
        }
        return N;
    }

    private boolean refuses(int sort, String word, int... numbers) {
        int refusal = doIt(sort, word, numbers);
        if (refusal != N) {
            refused[refusal]++;
        }
        return refusal != N;
    }

    int fill(int hole, int noun, int count) {
        return refuses(0, "", hole, noun, count) ? N : now.holes[hole].number();
    }

    int empty(int hole) {
        Filling f = out(hole, 2) ? null : now.holes[hole];
        return refuses(1, "", hole) ? N : f.noun;
    }

    int strict(int is) {
        return refuses(2, "", is) ? N : tellable();
    }

    int tell(int noun, int kase, int number) {
        if (refuses(3, tapeWord(), noun, kase, number)) {
            return N;
        }
        tape = "";
        return formsOf(noun);
    }

    int drop(int noun, int kase, int number) {
        return refuses(4, "", noun, kase, number) ? N : formsOf(noun);
    }

    private long x;

    private int draw(int j) {
        x = x * 6364136223846793005L + 1442695040888963407L;
        return (int) ((x >>> 33) % j);
    }

    int ways(int n, long seed) {
        if (lex == null || n < 1 || n > 40) {
            return N;
        }
        x = seed;
        int nouns = lex.nouns.size();
        for (int i = 0; i < n; i++) {
            switch (draw(8)) {
                case 0, 1, 2, 3:
                    doIt(0, "", draw(3), draw(nouns), draw(4));
                    break;
                case 4:
                    doIt(1, "", draw(3));
                    break;
                case 5:
                    doIt(2, "", draw(2));
                    break;
                case 6:
                    int[] k = {draw(nouns), draw(4), draw(2)};
                    doIt(3, "" + "abc".charAt(draw(3)) + "abc".charAt(draw(3)) + "abc".charAt(draw(3)), k);
                    break;
                default:
                    doIt(4, "", draw(nouns), draw(4), draw(2));
                    break;
            }
        }
        return tellable();
    }

    int status(int what) {
        return out(what, 2) ? N : refused[what];
    }

    int undo() {
        if (past.isEmpty()) {
            return N;
        }
        now = past.remove(past.size() - 1);
        return past.size();
    }

    int log(int i, int what) {
        if (out(i, now.rows.size() - 1) || out(what, 2)) {
            return H;
        }
        Row r = now.rows.get(i);
        return new int[] {r.sort, r.number, r.messages}[what];
    }

    int would(int hole, int noun, int count) {
        World real = now;
        now = now.copy();
        int answer = attempt(new Act(0, new int[] {hole, noun, count}, "")) != N ? N : tellableBits();
        now = real;
        return answer;
    }

    // ---- scripts

    int step(int script, int i, int what) {
        if (out(script, scripts.size() - 1) || out(i, scripts.get(script).size() - 1) || out(what, 4)) {
            return H;
        }
        Act a = scripts.get(script).get(i);
        if (what == 0) {
            return a.sort;
        }
        if (what == 4) {
            return a.word.length();
        }
        return what > a.numbers.length ? H : a.numbers[what - 1];
    }

    int run(int script, int what) {
        if (lex == null || out(script, scripts.size() - 1) || out(what, 1)) {
            return H;
        }
        World real = now;
        now = now.copy();
        int behind = N;
        List<Act> acts = scripts.get(script);
        for (int i = 0; i < acts.size() && behind == N; i++) {
            if (attempt(acts.get(i)) != N) {
                behind = i;
            }
        }
        int answer = what == 0 ? behind : tellable();
        now = real;
        return answer;
    }

    int perform(int script) {
        if (lex == null || out(script, scripts.size() - 1)) {
            return N;
        }
        int done = 0;
        for (Act a : scripts.get(script)) {
            if (doIt(a.sort, a.word, a.numbers) != N) {
                break;
            }
            done++;
        }
        return done;
    }

    // ---- all together

    int most(int what) {
        if (lex == null || out(what, 10)) {
            return H;
        }
        int best = N;
        int bytes = 0;
        int lacking = 0;
        int[] whys = new int[5];
        for (int m = 0; m < lex.messages.size(); m++) {
            String line = lineOf(m);
            if (line == null) {
                whys[whyOf(m).what]++;
            } else if (best == N || line.length() > bytes) {
                best = m;
                bytes = line.length();
            }
            lacking += missingOf(m).size();
        }
        int fewest = 0;
        int twins = 0;
        for (int noun = 0; noun < lex.nouns.size(); noun++) {
            fewest = formsOf(noun) < formsOf(fewest) ? noun : fewest;
            List<String> told = new ArrayList<>();
            for (int i = 0; i < 8; i++) {
                told.add(now.forms.getOrDefault(key(noun, i / 2, i % 2), "?" + i));
            }
            for (String s : told) {
                twins += told.indexOf(s) != told.lastIndexOf(s) ? 1 : 0;
            }
        }
        int filled = 0;
        for (int hole = 0; hole < 3; hole++) {
            filled |= now.holes[hole] == null ? 0 : 1 << hole;
        }
        return new int[] {best, bytes, lacking, fewest, filled, twins, whys[0], whys[1], whys[2],
            whys[3], whys[4]}[what];
    }

    int image() {
        if (lex == null) {
            return N;
        }
        kept = now.copy();
        return tellable();
    }

    int back() {
        if (kept == null) {
            return N;
        }
        now = kept.copy();
        past.clear();
        return tellable();
    }

    int count(int what) {
        return out(what, 4) ? H : new int[] {lex == null ? 0 : lex.nouns.size(), scripts.size(),
            tape.length(), now.rows.size(), past.size()}[what];
    }
}
