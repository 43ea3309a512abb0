import java.math.BigInteger;
import java.util.ArrayList;
import java.util.Arrays;
import java.util.HashMap;
import java.util.List;
import java.util.Map;
import java.util.function.Supplier;

/**
 * The whole face told anew from the document, over the Oracle: all that a run of calls leaves is held here, too.
 * It shares no code and no way of counting with the class.
 */
final class Model {
    private static final BigInteger MODULUS = BigInteger.valueOf(1000000007L);
    private static final int NONE = -1;

    /** THE TONGUE: it is never changed, so an IMAGE is one more reference to it. */
    static final class Told {
        final Oracle o = new Oracle();
        String letters = "";
        int lines = 0;
        private final Map<String, Object> found = new HashMap<>();

        /** What takes long is tried out once for a TONGUE. */
        @SuppressWarnings("unchecked")
        <T> T once(String name, Supplier<T> finder) {
            if (!found.containsKey(name)) {
                found.put(name, finder.get());
            }
            return (T) found.get(name);
        }
    }

    private final List<Integer> tape = new ArrayList<>();
    private Told told = new Told();
    private int[] line = {};
    private final Told[] imagedTold = new Told[2];
    private final int[][] imagedLine = new int[2][];
    private final Object[] rows = new Object[4];
    private int faultKind = 0;
    private int faultPlace = NONE;

    // ---- the tongue

    int feed(int... five) {
        if (tape.size() > 480) {
            return -5;
        }
        for (int four : five) {
            for (int k = 3; k >= 0; k--) {
                tape.add(four >> 8 * k & 255);
            }
        }
        return tape.size();
    }

    private boolean isOnTape(int n) {
        return n >= 0 && n <= tape.size();
    }

    private String take(int n) {
        StringBuilder b = new StringBuilder();
        for (int i = 0; i < n; i++) {
            b.append((char) (int) tape.get(i));
        }
        tape.clear();
        return b.toString();
    }

    /** The numbers of the SOUNDS that a text spells, or null. */
    private int[] spell(String text) {
        int[] row = new int[text.length()];
        for (int i = 0; i < row.length; i++) {
            row[i] = told.letters.indexOf(text.charAt(i));
            if (row[i] < 0) {
                return null;
            }
        }
        return row;
    }

    int tongue(int n) {
        if (!isOnTape(n)) {
            return -3;
        }
        TextReader reader = new TextReader(take(n));
        Told next = reader.read();
        faultKind = reader.faultKind;
        faultPlace = reader.faultPlace;
        if (next == null) {
            return -30 - faultKind;
        }
        told = next;
        line = new int[0];
        return told.lines;
    }

    int fault(int what) {
        return what == 0 ? faultKind : what == 1 ? faultPlace : NONE;
    }

    int sound(int s, int what) {
        if (s < 0 || s >= told.o.sounds || what < 0 || what > 2) {
            return -2;
        }
        int bits = 0;
        for (int k = 0; k < told.o.sounds; k++) {
            bits += told.o.like[s][k] ? 1 << k : 0;
        }
        return what == 0 ? told.letters.charAt(s) : what == 1 ? (told.o.open[s] ? 1 : 0) : bits;
    }

    private boolean isWord(long w) {
        return w >= 0 && w < told.o.words.size();
    }

    int word(int w, int what) {
        if (!isWord(w)) {
            return -2;
        }
        int[] row = told.o.words.get(w);
        List<Integer> answers = new ArrayList<>(List.of(row.length, told.o.uses.get(w), told.o.kinds.get(w)));
        if (what >= 0 && what < 3) {
            return answers.get(what);
        }
        return what >= 10 && what < 10 + row.length ? row[what - 10] : -2;
    }

    int shape(int s, int what) {
        if (s < 0 || s >= told.o.shapes.size() || what < NONE || what >= told.o.shapes.get(s).length) {
            return -2;
        }
        return what == NONE ? told.o.shapes.get(s).length : told.o.shapes.get(s)[what] ? 1 : 0;
    }

    private static boolean isKind(int kind) {
        return kind >= 0 && kind <= 3;
    }

    int behind(int kind) {
        if (!isKind(kind)) {
            return -2;
        }
        int bits = 15;
        for (int k = 0; k < 4; k++) {
            bits -= told.o.never[kind][k] ? 1 << k : 0;
        }
        return bits;
    }

    int ends(int kind) {
        return !isKind(kind) ? -2 : told.o.notLast[kind] ? 0 : 1;
    }

    int spelt(int n) {
        if (!isOnTape(n)) {
            return -3;
        }
        int[] row = spell(take(n));
        return row == null ? NONE : told.o.find(row);
    }

    int unlike(int w, int v) {
        return isWord(w) && isWord(v) ? told.o.unlike(told.o.words.get(w), told.o.words.get(v)) : -2;
    }

    int near(int w) {
        if (!isWord(w)) {
            return -2;
        }
        for (int cost = 0; cost <= 24; cost++) {
            for (int v = 0; v < told.o.words.size(); v++) {
                if (v != w && unlike(w, v) == cost) {
                    return v;
                }
            }
        }
        return NONE;
    }

    // ---- sentences, the line

    private static boolean isRow(int row) {
        return row >= 0 && row <= 3;
    }

    private long[] numbersOf(int row) {
        Object r = rows[row];
        long[] values = new long[java.lang.reflect.Array.getLength(r)];
        for (int i = 0; i < values.length; i++) {
            values[i] = java.lang.reflect.Array.getLong(r, i);
        }
        return values;
    }

    /** How many numbers stand ahead of the first that can't be. */
    private int rightOnes(long[] values) {
        for (int i = 0; i < values.length; i++) {
            boolean may = isWord(values[i]);
            if (may && i > 0) {
                may = !told.o.never[told.o.kinds.get((int) values[i - 1])][told.o.kinds.get((int) values[i])];
            }
            if (!may) {
                return i;
            }
        }
        return values.length;
    }

    private int[] wordsOf(int row) {
        long[] values = numbersOf(row);
        return Arrays.stream(values).limit(rightOnes(values)).mapToInt(v -> (int) v).toArray();
    }

    private boolean isSentence(int row) {
        int[] words = wordsOf(row);
        return words.length == numbersOf(row).length && told.o.isSentence(words);
    }

    int judge(int row, int what) {
        if (!isRow(row) || what < 0 || what > 3) {
            return -2;
        }
        if (rows[row] == null) {
            return -6;
        }
        int[] words = wordsOf(row);
        switch (what) {
            case 0: return words.length == numbersOf(row).length ? NONE : words.length;
            case 1: return isSentence(row) ? 1 : 0;
            case 2: return told.o.saidAs(words).length;
            default: return told.o.usesOf(words);
        }
    }

    int say(int row) {
        if (!isRow(row)) {
            return -2;
        }
        if (rows[row] == null) {
            return -6;
        }
        if (!isSentence(row)) {
            return -3;
        }
        int[] said = told.o.saidAs(wordsOf(row));
        if (said.length > 40) {
            return -5;
        }
        line = said;
        return said.length;
    }

    int line(int n) {
        if (n < 0 || n > 40 || n > tape.size()) {
            return -3;
        }
        int[] row = spell(take(n));
        if (row == null) {
            return -9;
        }
        line = row;
        return n;
    }

    int at(int i) {
        return i >= 0 && i < line.length ? line[i] : NONE;
    }

    private static int rest(BigInteger number) {
        return number.mod(MODULUS).intValue();
    }

    /** MISTAKES with which a WORD is heard at a place of a row; -1 if it can't be. */
    private int mistakesAt(int[] heard, int place, int w) {
        int[] word = told.o.words.get(w);
        if (place + word.length > heard.length) {
            return -1;
        }
        return told.o.mistakes(word, Arrays.copyOfRange(heard, place, place + word.length));
    }

    private boolean may(int kindAhead, int w) {
        return kindAhead < 0 || !told.o.never[kindAhead][told.o.kinds.get(w)];
    }

    int cuts(int m) {
        if (m < 0 || m > 2) {
            return -3;
        }
        BigInteger sum = BigInteger.ZERO;
        BigInteger[][][] ways = waysTo(line, m);
        for (int kind = 0; kind < 4; kind++) {
            for (int made = 0; made <= m && !told.o.notLast[kind]; made++) {
                sum = sum.add(ways[line.length][kind][made]);
            }
        }
        return rest(sum);
    }

    /** How many rows of WORDS are heard as the first SOUNDS of a line, by the KIND of the last and MISTAKES. */
    private BigInteger[][][] waysTo(int[] heard, int m) {
        BigInteger[][][] ways = new BigInteger[heard.length + 1][4][m + 1];
        for (BigInteger[][] place : ways) {
            for (BigInteger[] kind : place) {
                Arrays.fill(kind, BigInteger.ZERO);
            }
        }
        for (int from = 0; from < heard.length; from++) {
            for (int w = 0; w < told.o.words.size(); w++) {
                int made = mistakesAt(heard, from, w);
                for (int ahead = from == 0 ? -1 : 0; made >= 0 && ahead < (from == 0 ? 0 : 4); ahead++) {
                    for (int madeAhead = 0; madeAhead + made <= m && may(ahead, w); madeAhead++) {
                        BigInteger add = ahead < 0 ? madeAhead == 0 ? BigInteger.ONE : BigInteger.ZERO
                                : ways[from][ahead][madeAhead];
                        BigInteger[] into = ways[from + told.o.words.get(w).length][told.o.kinds.get(w)];
                        into[madeAhead + made] = into[madeAhead + made].add(add);
                    }
                }
            }
        }
        return ways;
    }

    int bound(int i) {
        if (i < 1 || i > line.length) {
            return -3;
        }
        BigInteger[][][] ways = waysTo(line, 0);
        BigInteger sum = BigInteger.ZERO;
        for (int kind = 0; kind < 4; kind++) {
            sum = sum.add(ways[i][kind][0].multiply(waysOn(i, kind, new HashMap<>())));
        }
        return rest(sum);
    }

    private BigInteger waysOn(int place, int kind, Map<Integer, BigInteger> known) {
        if (place == line.length) {
            return told.o.notLast[kind] ? BigInteger.ZERO : BigInteger.ONE;
        }
        int key = place * 4 + kind;
        if (!known.containsKey(key)) {
            BigInteger sum = BigInteger.ZERO;
            for (int w = 0; w < told.o.words.size(); w++) {
                if (may(kind, w) && mistakesAt(line, place, w) == 0) {
                    sum = sum.add(waysOn(place + told.o.words.get(w).length, told.o.kinds.get(w), known));
                }
            }
            known.put(key, sum);
        }
        return known.get(key);
    }

    /** A row of WORDS that is heard as the beginning of a line. */
    private record Row(int mistakes, int uses, List<Integer> words) {
        boolean isAheadOf(Row other) {
            if (other == null || mistakes != other.mistakes) {
                return other == null || mistakes < other.mistakes;
            }
            if (uses != other.uses) {
                return uses > other.uses;
            }
            for (int i = 0; i < words.size() && i < other.words.size(); i++) {
                if (!words.get(i).equals(other.words.get(i))) {
                    return words.get(i) < other.words.get(i);
                }
            }
            return false;
        }
    }

    /** The best row of WORDS that is heard as a line (null: as any SOUNDS, so many), or null. */
    private Row best(int[] heard, int n, boolean withMistakes) {
        Row[][] rows = new Row[n + 1][4];
        for (int from = 0; from < n; from++) {
            for (int w = 0; w < told.o.words.size(); w++) {
                int to = from + told.o.words.get(w).length;
                int made = to > n ? -1 : heard == null ? 0 : mistakesAt(heard, from, w);
                for (int ahead = from == 0 ? -1 : 0; ahead < (from == 0 ? 0 : 4); ahead++) {
                    Row before = ahead < 0 ? new Row(0, 0, List.of()) : rows[from][ahead];
                    boolean fits = withMistakes ? made >= 0 : made == 0;
                    if (fits && before != null && may(ahead, w)) {
                        List<Integer> words = new ArrayList<>(before.words);
                        words.add(w);
                        Row row = new Row(before.mistakes + made, before.uses + told.o.uses.get(w), words);
                        int kind = told.o.kinds.get(w);
                        rows[to][kind] = row.isAheadOf(rows[to][kind]) ? row : rows[to][kind];
                    }
                }
            }
        }
        Row best = null;
        for (int kind = 0; n > 0 && kind < 4; kind++) {
            if (rows[n][kind] != null && !told.o.notLast[kind] && rows[n][kind].isAheadOf(best)) {
                best = rows[n][kind];
            }
        }
        return best;
    }

    private void walk(int place, int kind, List<Integer> row, List<List<Integer>> found,
            Map<Integer, BigInteger> known) {
        if (place == line.length && !row.isEmpty()) {
            found.add(new ArrayList<>(row));
        }
        for (int w = 0; w < told.o.words.size() && found.size() < 2; w++) {
            int to = place + told.o.words.get(w).length;
            if (may(kind, w) && mistakesAt(line, place, w) == 0
                    && waysOn(to, told.o.kinds.get(w), known).signum() > 0) {
                row.add(w);
                walk(to, told.o.kinds.get(w), row, found, known);
                row.remove(row.size() - 1);
            }
        }
    }

    /** WORDS of a CUT of THE LINE, or null. */
    private List<Integer> cutOf(int which) {
        if (which >= 2) {
            Row best = best(line, line.length, which == 3);
            return best == null ? null : best.words;
        }
        List<List<Integer>> found = new ArrayList<>();
        walk(0, -1, new ArrayList<>(), found, new HashMap<>());
        return found.size() > which ? found.get(which) : null;
    }

    int cut(int which, int k) {
        if (which < 0 || which > 3) {
            return -2;
        }
        if (k < NONE) {
            return -3;
        }
        List<Integer> cut = cutOf(which);
        if (cut == null) {
            return NONE;
        }
        return k == NONE ? cut.size() : k < cut.size() ? cut.get(k) : NONE;
    }

    int mistakes() {
        Row heard = best(line, line.length, true);
        return heard == null ? NONE : heard.mistakes;
    }

    // ---- sure

    private int leastUnsure(int m) {
        return told.once("unsure " + m, () -> told.o.unsure(m, 0));
    }

    int unsure(int m) {
        return m < 0 || m > 2 ? -3 : leastUnsure(m);
    }

    int unsureAt(int i) {
        int length = leastUnsure(0);
        if (i < 0 || i >= length) {
            return NONE;
        }
        int[] unsureLine = told.once("line", () -> told.o.unsureLine(length));
        return unsureLine[i];
    }

    int bears() {
        int most = NONE;
        for (int m = 0; m <= 2; m++) {
            most = leastUnsure(m) == NONE ? m : most;
        }
        return most;
    }

    int added(int kind, int what) {
        if (!isKind(kind) || what < 0 || what > 1 && what < 10 || what > 12) {
            return -2;
        }
        int[] added = told.once("added " + kind, () -> told.o.added(kind));
        if (added == null) {
            return NONE;
        }
        int n = added.length - 1;
        return what == 0 ? n : what == 1 ? added[n] : what - 10 < n ? added[what - 10] : NONE;
    }

    int adds(int kind, int n, int m) {
        if (!isKind(kind)) {
            return -2;
        }
        if (!isOnTape(n) || m < 0 || m > 2) {
            return -3;
        }
        int[] row = spell(take(n));
        if (row == null || row.length < 1 || row.length > 6 || told.o.find(row) >= 0) {
            return -9;
        }
        return told.o.with(row, kind).unsure(m, 0) == NONE ? 1 : 0;
    }

    int mended(int what) {
        if (what < 0 || what > 1) {
            return -2;
        }
        int bits = told.once("mended", () -> told.o.mended());
        return what == 1 || bits == NONE ? bits : Integer.bitCount(bits);
    }

    int changed(int what) {
        if (what < 0 || what > 2) {
            return -2;
        }
        return told.once("changed", () -> told.o.changed())[what];
    }

    int paused(int what) {
        if (what < 0 || what > 1) {
            return -2;
        }
        int bits = told.once("paused", () -> told.o.paused());
        return what == 1 ? bits : Integer.bitCount(bits);
    }

    int begun(int what) {
        if (what < 0 || what > 1) {
            return -2;
        }
        for (int w = 0; w < told.o.words.size(); w++) {
            for (int v = 0; v < told.o.words.size(); v++) {
                String longer = Oracle.letters(told.o.words.get(v));
                if (v != w && longer.startsWith(Oracle.letters(told.o.words.get(w)))) {
                    return what == 0 ? w : v;
                }
            }
        }
        return NONE;
    }

    int fitted(int n, int what) {
        if (what < 0 || what > 1) {
            return -2;
        }
        if (!isOnTape(n)) {
            return -3;
        }
        int[] row = spell(take(n));
        if (row == null || row.length > 12) {
            return -9;
        }
        int best = NONE;
        int least = NONE;
        for (int s = 0; s < told.o.shapes.size(); s++) {
            int cost = told.o.fit(row, 0, told.o.shapes.get(s), 0);
            if (least == NONE || cost < least) {
                best = s;
                least = cost;
            }
        }
        return what == 0 ? least : best;
    }

    // ---- talk

    int talk() {
        int sum = 0;
        for (int w = 0; w < told.o.words.size(); w++) {
            sum += told.o.uses.get(w) * told.o.words.get(w).length;
        }
        return sum;
    }

    int code(int n) {
        if (n < 2 || n > 8) {
            return -3;
        }
        int[] uses = told.o.uses.stream().sorted((a, b) -> b - a).mapToInt(u -> u).toArray();
        return Arrays.stream(uses).sum() + (uses.length == 0 ? 0 : codeFrom(uses, 0, n, n));
    }

    /** SOUND by SOUND: some rows end here, all others get one SOUND more. */
    private static int codeFrom(int[] uses, int placed, int rows, int n) {
        int left = uses.length - placed;
        if (left <= rows) {
            return 0;
        }
        int best = Integer.MAX_VALUE;
        for (int end = 0; end < rows; end++) {
            int longer = Arrays.stream(uses, placed + end, uses.length).sum();
            best = Math.min(best, longer + codeFrom(uses, placed + end, (rows - end) * n, n));
        }
        return best;
    }

    int said(int n) {
        if (n < 0 || n > 60) {
            return -3;
        }
        BigInteger[][] ways = new BigInteger[n + 1][4];
        BigInteger sum = BigInteger.ZERO;
        for (int to = 1; to <= n; to++) {
            Arrays.fill(ways[to], BigInteger.ZERO);
            for (int w = 0; w < told.o.words.size(); w++) {
                int from = to - told.o.words.get(w).length;
                int kind = told.o.kinds.get(w);
                if (from == 0) {
                    ways[to][kind] = ways[to][kind].add(BigInteger.ONE);
                }
                for (int ahead = 0; from > 0 && ahead < 4; ahead++) {
                    ways[to][kind] = ways[to][kind].add(may(ahead, w) ? ways[from][ahead] : BigInteger.ZERO);
                }
            }
        }
        for (int kind = 0; n > 0 && kind < 4; kind++) {
            sum = sum.add(told.o.notLast[kind] ? BigInteger.ZERO : ways[n][kind]);
        }
        return rest(sum);
    }

    int richest(int n, int k) {
        if (n < 1 || n > 60 || k < NONE) {
            return -3;
        }
        Row best = best(null, n, false);
        if (best == null) {
            return NONE;
        }
        return k == NONE ? best.uses : k < best.words.size() ? best.words.get(k) : NONE;
    }

    /** LONGEST; 201 stands for no end: without one, 24 SOUNDS are the most. */
    private int most() {
        return told.once("most", () -> {
            boolean[] any = told.o.saidAtAll();
            int most = NONE;
            for (int n = 1; n < any.length; n++) {
                most = any[n] ? n : most;
            }
            return most > 100 ? 201 : most;
        });
    }

    int endless() {
        return most() == 201 ? 1 : 0;
    }

    int longest() {
        return most() == 201 ? NONE : most();
    }

    private int x;

    private int draw() {
        x = 1103515245 * x + 12345;
        return x >>> 16;
    }

    /** What comes through NOISE; the DRAWS go on from x. */
    private int[] carried(int[] said, int hundredths) {
        int[] come = said.clone();
        for (int i = 0; i < said.length; i++) {
            List<Integer> others = new ArrayList<>();
            for (int s = 0; s < told.o.sounds; s++) {
                if (told.o.like[said[i]][s]) {
                    others.add(s);
                }
            }
            if (!others.isEmpty() && draw() % 100 < hundredths) {
                come[i] = others.get(draw() % others.size());
            }
        }
        return come;
    }

    private boolean isHeardAs(int[] come, int[] words) {
        Row heard = best(come, come.length, true);
        return heard != null && Arrays.equals(heard.words.stream().mapToInt(w -> w).toArray(), words);
    }

    private int refusedForNoise(int row, int hundredths) {
        if (rows[row] == null) {
            return -6;
        }
        boolean may = isSentence(row) && told.o.saidAs(wordsOf(row)).length <= 40;
        return may && hundredths >= 0 && hundredths <= 100 ? 0 : -3;
    }

    int noise(int row, int seed, int hundredths, int what) {
        if (!isRow(row) || what < 0 || what > 1 && what < 10 || what > 49) {
            return -2;
        }
        int code = refusedForNoise(row, hundredths);
        if (code != 0) {
            return code;
        }
        int[] said = told.o.saidAs(wordsOf(row));
        x = seed;
        int[] come = carried(said, hundredths);
        if (what == 0) {
            int made = 0;
            for (int i = 0; i < said.length; i++) {
                made += said[i] == come[i] ? 0 : 1;
            }
            return made;
        }
        if (what == 1) {
            return isHeardAs(come, wordsOf(row)) ? 1 : 0;
        }
        return what - 10 < come.length ? come[what - 10] : NONE;
    }

    int asked(int row, int seed, int hundredths) {
        if (!isRow(row)) {
            return -2;
        }
        int code = refusedForNoise(row, hundredths);
        if (code != 0) {
            return code;
        }
        int[] words = wordsOf(row);
        x = seed;
        for (int times = 1; times <= 9; times++) {
            if (isHeardAs(carried(told.o.saidAs(words), hundredths), words)) {
                return times;
            }
        }
        return NONE;
    }

    int tree() {
        return Math.max(1, told.o.beginnings().size());
    }

    int limb(int k, int what) {
        if (k < 1 || k > 12) {
            return -3;
        }
        if (what < 0 || what > 1 && what < 10 || what > 15) {
            return -2;
        }
        for (Map.Entry<String, Integer> e : told.o.beginnings().entrySet()) {
            if (e.getValue() >= k) {
                String s = e.getKey();
                return what == 0 ? s.length() : what == 1 ? e.getValue()
                        : what - 10 < s.length() ? s.charAt(what - 10) - 'a' : NONE;
            }
        }
        return NONE;
    }

    // ---- rows of numbers, images

    int numbers(int row, int sort, int n) {
        if (!isRow(row) || sort < 0 || sort > 3) {
            return -2;
        }
        if (n < 0 || n > 40) {
            return -3;
        }
        rows[row] = sort == 0 ? new byte[n] : sort == 1 ? new short[n] : sort == 2 ? (Object) new int[n] : new long[n];
        return 0;
    }

    long write(int row, int i, long v) {
        if (!isRow(row)) {
            return -2;
        }
        if (rows[row] == null) {
            return -6;
        }
        if (i < 0 || i >= numbersOf(row).length) {
            return -7;
        }
        put(row, i, v);
        return numbersOf(row)[i];
    }

    private void put(int row, int i, long v) {
        if (rows[row] instanceof byte[] bytes) {
            bytes[i] = (byte) v;
        } else if (rows[row] instanceof short[] shorts) {
            shorts[i] = (short) v;
        } else if (rows[row] instanceof int[] ints) {
            ints[i] = (int) v;
        } else if (rows[row] instanceof long[] longs) {
            longs[i] = v;
        }
    }

    int copy(int which, int row) {
        if (which < 0 || which > 3 || !isRow(row)) {
            return -2;
        }
        List<Integer> cut = cutOf(which);
        if (cut == null) {
            return -5;
        }
        if (rows[row] == null) {
            return -6;
        }
        if (numbersOf(row).length < cut.size()) {
            return -7;
        }
        for (int i = 0; i < cut.size(); i++) {
            put(row, i, cut.get(i));
        }
        return cut.size();
    }

    int image(int i) {
        if (i < 0 || i > 1) {
            return -2;
        }
        imagedTold[i] = told;
        imagedLine[i] = line;
        return 0;
    }

    int restore(int i) {
        if (i < 0 || i > 1) {
            return -2;
        }
        if (imagedTold[i] == null) {
            return -5;
        }
        told = imagedTold[i];
        line = imagedLine[i];
        return 0;
    }

    int count(int what) {
        int[] counts = {told.lines, told.o.sounds, told.o.words.size(), told.o.shapes.size(), line.length, tape.size()};
        return what >= 0 && what < counts.length ? counts[what] : NONE;
    }

    /** The letters of a SOUND or any others, for texts by chance. */
    String letters() {
        return told.letters;
    }

    Oracle oracle() {
        return told.o;
    }
}
