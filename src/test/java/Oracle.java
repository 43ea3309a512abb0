import java.util.ArrayDeque;
import java.util.ArrayList;
import java.util.Arrays;
import java.util.HashMap;
import java.util.HashSet;
import java.util.List;
import java.util.Map;
import java.util.PriorityQueue;
import java.util.Random;
import java.util.Set;
import java.util.TreeMap;

/** The document's words told anew in the plainest way: everything is tried out, nothing is clever. */
final class Oracle {
    int sounds;
    boolean[] open = new boolean[8];
    boolean[][] like = new boolean[9][9];
    List<int[]> words = new ArrayList<>();
    List<Integer> uses = new ArrayList<>();
    List<Integer> kinds = new ArrayList<>();
    boolean[][] never = new boolean[4][4];
    boolean[] notLast = new boolean[4];
    List<boolean[]> shapes = new ArrayList<>();
    private int tried;

    /** A tongue by chance: few sounds and short words, so that much can be cut in many ways. */
    static Oracle byChance(Random r) {
        Oracle o = new Oracle();
        o.sounds = r.nextInt(8) == 0 ? 2 + r.nextInt(7) : 2 + r.nextInt(3);
        for (int i = 0; i < o.sounds; i++) {
            o.open[i] = r.nextBoolean();
        }
        int likes = r.nextInt(4);
        for (int i = 0; i < likes; i++) {
            int a = r.nextInt(o.sounds);
            int b = r.nextInt(o.sounds);
            if (a != b) {
                o.like[a][b] = true;
                o.like[b][a] = true;
            }
        }
        int nevers = r.nextInt(3) == 0 ? r.nextInt(14) : r.nextInt(4);
        for (int i = 0; i < nevers; i++) {
            o.never[r.nextInt(4)][r.nextInt(4)] = true;
        }
        int lasts = r.nextInt(3);
        for (int i = 0; i < lasts; i++) {
            o.notLast[r.nextInt(4)] = true;
        }
        int count = r.nextInt(3) == 0 ? r.nextInt(13) : 1 + r.nextInt(6);
        int longest = 1 + r.nextInt(6);
        int shortest = r.nextInt(3) == 0 ? 1 + r.nextInt(longest) : 1;
        int kindsUsed = 1 + r.nextInt(4);
        for (int i = 0; i < count; i++) {
            int[] w = new int[shortest + r.nextInt(longest + 1 - shortest)];
            for (int k = 0; k < w.length; k++) {
                w[k] = r.nextInt(o.sounds);
            }
            if (o.find(w) < 0) {
                o.words.add(w);
                o.uses.add(r.nextInt(4) == 0 ? r.nextInt(100) : r.nextInt(5));
                o.kinds.add(r.nextInt(kindsUsed));
            }
        }
        int shapes = r.nextInt(3) == 0 ? r.nextInt(7) : r.nextInt(2);
        for (int i = 0; i < shapes; i++) {
            boolean[] shape = new boolean[1 + r.nextInt(r.nextBoolean() ? 3 : 6)];
            for (int k = 0; k < shape.length; k++) {
                shape[k] = r.nextBoolean();
            }
            o.shapes.add(shape);
        }
        return o;
    }

    /** Much that never stands behind, little that is last, many likes: two that are heard alike must go far. */
    static Oracle strictByChance(Random r) {
        Oracle o = new Oracle();
        o.sounds = 2 + r.nextInt(3);
        int likes = 1 + r.nextInt(4);
        for (int i = 0; i < likes; i++) {
            int a = r.nextInt(o.sounds);
            int b = (a + 1 + r.nextInt(o.sounds - 1)) % o.sounds;
            o.like[a][b] = true;
            o.like[b][a] = true;
        }
        int strict = 3 + r.nextInt(6);
        for (int i = 0; i < 4; i++) {
            o.notLast[i] = r.nextInt(3) > 0;
            for (int k = 0; k < 4; k++) {
                o.never[i][k] = r.nextInt(9) < strict;
            }
        }
        o.notLast[r.nextInt(4)] = false;
        int count = 4 + r.nextInt(7);
        int longest = 2 + r.nextInt(4);
        for (int i = 0; i < count; i++) {
            // WORDS that are like an earlier one are mistaken more easily
            boolean fresh = o.words.isEmpty() || r.nextBoolean();
            int[] w = fresh ? new int[1 + r.nextInt(longest)] : o.words.get(r.nextInt(o.words.size())).clone();
            for (int k = 0; k < w.length; k++) {
                w[k] = fresh || r.nextInt(3) == 0 ? r.nextInt(o.sounds) : w[k];
            }
            if (o.find(w) < 0) {
                o.words.add(w);
                o.uses.add(1);
                o.kinds.add(r.nextInt(4));
            }
        }
        return o;
    }

    /** As much as can be told: 12 WORDS and 6 SHAPES, some of them as long as can be. */
    static Oracle fullByChance(Random r) {
        Oracle o = new Oracle();
        o.sounds = r.nextBoolean() ? 8 : 3 + r.nextInt(5);
        for (int i = 0; i < o.sounds; i++) {
            o.open[i] = r.nextBoolean();
            int other = r.nextInt(o.sounds);
            if (other != i && r.nextBoolean()) {
                o.like[i][other] = true;
                o.like[other][i] = true;
            }
        }
        int shortest = r.nextInt(3) == 0 ? 1 : 4;
        for (int tries = 0; tries < 1000 && o.words.size() < 12; tries++) {
            int[] w = new int[shortest + r.nextInt(7 - shortest)];
            for (int k = 0; k < w.length; k++) {
                w[k] = r.nextInt(o.sounds);
            }
            if (o.find(w) < 0) {
                o.words.add(w);
                o.uses.add(r.nextInt(3) == 0 ? 99 : r.nextInt(10));
                o.kinds.add(r.nextInt(4));
            }
        }
        for (int i = 0; i < 6; i++) {
            o.shapes.add(new boolean[1 + r.nextInt(6)]);
            for (int k = 0; k < o.shapes.get(i).length; k++) {
                o.shapes.get(i)[k] = r.nextBoolean();
            }
        }
        for (int i = r.nextInt(5); i > 0; i--) {
            o.never[r.nextInt(4)][r.nextInt(4)] = true;
        }
        return o;
    }

    String text() {
        StringBuilder b = new StringBuilder("sounds " + "abcdefgh".substring(0, sounds) + ";");
        StringBuilder opened = new StringBuilder();
        for (int i = 0; i < sounds; i++) {
            if (open[i]) {
                opened.append((char) ('a' + i));
            }
            for (int k = 0; k < i; k++) {
                if (like[i][k]) {
                    b.append("like ").append((char) ('a' + i)).append(' ').append((char) ('a' + k)).append(';');
                }
            }
        }
        if (opened.length() > 0) {
            b.append("open ").append(opened).append(';');
        }
        for (int i = 0; i < 4; i++) {
            if (notLast[i]) {
                b.append("last ").append(i).append(';');
            }
            for (int k = 0; k < 4; k++) {
                if (never[i][k]) {
                    b.append("never ").append(i).append(' ').append(k).append(';');
                }
            }
        }
        for (int w = 0; w < words.size(); w++) {
            b.append("word ").append(letters(words.get(w))).append(" use ").append(uses.get(w));
            b.append(" kind ").append(kinds.get(w)).append(";");
        }
        for (boolean[] shape : shapes) {
            b.append("shape ");
            for (boolean o : shape) {
                b.append(o ? 'o' : 's');
            }
            b.append(";");
        }
        return b.toString();
    }

    static String letters(int[] row) {
        StringBuilder b = new StringBuilder();
        for (int s : row) {
            b.append((char) ('a' + s));
        }
        return b.toString();
    }

    int find(int[] row) {
        for (int w = 0; w < words.size(); w++) {
            if (Arrays.equals(words.get(w), row)) {
                return w;
            }
        }
        return -1;
    }

    Oracle twin() {
        Oracle o = new Oracle();
        o.sounds = sounds;
        o.open = open;
        o.like = like;
        o.never = never;
        o.notLast = notLast;
        o.shapes = shapes;
        o.words = new ArrayList<>(words);
        o.uses = new ArrayList<>(uses);
        o.kinds = new ArrayList<>(kinds);
        return o;
    }

    boolean isSentence(int[] row) {
        for (int i = 1; i < row.length; i++) {
            if (never[kinds.get(row[i - 1])][kinds.get(row[i])]) {
                return false;
            }
        }
        return row.length > 0 && !notLast[kinds.get(row[row.length - 1])];
    }

    int[] saidAs(int[] row) {
        List<Integer> out = new ArrayList<>();
        for (int w : row) {
            for (int s : words.get(w)) {
                out.add(s);
            }
        }
        return out.stream().mapToInt(i -> i).toArray();
    }

    int usesOf(int[] row) {
        int sum = 0;
        for (int w : row) {
            sum += uses.get(w);
        }
        return sum;
    }

    /** All sentences of so many sounds, in order by words; null if they are too many to try. */
    List<int[]> sentences(int length, int most) {
        List<int[]> found = new ArrayList<>();
        tried = 0;
        boolean all = grow(new ArrayList<>(), length, found, most);
        return all ? found : null;
    }

    private boolean grow(List<Integer> row, int left, List<int[]> found, int most) {
        tried++;
        if (tried > 50 * most) {
            return false;
        }
        if (left == 0) {
            int[] r = row.stream().mapToInt(i -> i).toArray();
            if (isSentence(r)) {
                found.add(r);
            }
            return found.size() <= most;
        }
        for (int w = 0; w < words.size(); w++) {
            boolean may = row.isEmpty() || !never[kinds.get(row.get(row.size() - 1))][kinds.get(w)];
            if (may && words.get(w).length <= left) {
                row.add(w);
                boolean ok = grow(row, left - words.get(w).length, found, most);
                row.remove(row.size() - 1);
                if (!ok) {
                    return false;
                }
            }
        }
        return true;
    }

    /** Mistakes by which what is said is heard as a line; -1 if it can't be. */
    int mistakes(int[] said, int[] heard) {
        int made = 0;
        for (int i = 0; i < said.length; i++) {
            if (said[i] != heard[i]) {
                if (!like[said[i]][heard[i]]) {
                    return -1;
                }
                made++;
            }
        }
        return made;
    }

    List<int[]> cuts(List<int[]> all, int[] line, int m) {
        List<int[]> found = new ArrayList<>();
        for (int[] s : all) {
            int made = mistakes(saidAs(s), line);
            if (made >= 0 && made <= m) {
                found.add(s);
            }
        }
        return found;
    }

    int[] mostUse(List<int[]> cuts) {
        int[] best = null;
        for (int[] s : cuts) {
            if (best == null || usesOf(s) > usesOf(best)) {
                best = s;
            }
        }
        return best;
    }

    int[] heard(List<int[]> all, int[] line) {
        for (int m = 0; m <= line.length; m++) {
            List<int[]> found = cuts(all, line, m);
            if (!found.isEmpty()) {
                return mostUse(found);
            }
        }
        return null;
    }

    boolean endsAt(int[] row, int place) {
        int at = 0;
        for (int w : row) {
            at += words.get(w).length;
            if (at == place) {
                return true;
            }
        }
        return false;
    }

    // ---- two sentences side by side, sound by sound; words may end with the stop, sound 8

    private int[][] spoken(int paused) {
        int[][] spoken = new int[words.size()][];
        for (int w = 0; w < spoken.length; w++) {
            int[] row = words.get(w);
            if ((paused >> kinds.get(w) & 1) != 0) {
                row = Arrays.copyOf(row, row.length + 1);
                row[row.length - 1] = 8;
            }
            spoken[w] = row;
        }
        return spoken;
    }

    /** Where one of the two can go: word * 8 + how many of its sounds are said. Behind the last: a new word. */
    private List<Integer> steps(int[][] spoken, int at) {
        List<Integer> next = new ArrayList<>();
        int w = at / 8;
        if (at >= 0 && at % 8 < spoken[w].length) {
            next.add(at + 1);
            return next;
        }
        for (int v = 0; v < spoken.length; v++) {
            if (at < 0 || !never[kinds.get(w)][kinds.get(v)]) {
                next.add(v * 8 + 1);
            }
        }
        return next;
    }

    private boolean ended(int[][] spoken, int at) {
        return at >= 0 && at % 8 == spoken[at / 8].length && !notLast[kinds.get(at / 8)];
    }

    private record Pair(int a, int b, int madeA, int madeB, boolean differ) {
    }

    private List<Pair> next(int[][] spoken, Pair p, int m, int sound) {
        List<Pair> out = new ArrayList<>();
        for (int a : steps(spoken, p.a)) {
            for (int b : steps(spoken, p.b)) {
                int x = spoken[a / 8][a % 8 - 1];
                int y = spoken[b / 8][b % 8 - 1];
                for (int h = 0; h <= 8; h++) {
                    boolean canX = h == x || like[x][h];
                    boolean canY = h == y || like[y][h];
                    if (canX && canY && (sound < 0 || h == sound)) {
                        Pair q = new Pair(a, b, p.madeA + (h == x ? 0 : 1), p.madeB + (h == y ? 0 : 1),
                                p.differ || a != b);
                        if (q.madeA <= m && q.madeB <= m) {
                            out.add(q);
                        }
                    }
                }
            }
        }
        return out;
    }

    /** The least number of sounds (and stops) of two unlike sentences that can be heard as the same; -1. */
    int unsure(int m, int paused) {
        int[][] spoken = spoken(paused);
        Set<Pair> seen = new HashSet<>();
        ArrayDeque<Pair> queue = new ArrayDeque<>();
        Pair start = new Pair(-1, -1, 0, 0, false);
        queue.add(start);
        seen.add(start);
        for (int length = 0; !queue.isEmpty(); length++) {
            for (int n = queue.size(); n > 0; n--) {
                Pair p = queue.poll();
                if (p.differ && ended(spoken, p.a) && ended(spoken, p.b)) {
                    return length;
                }
                for (Pair q : next(spoken, p, m, -1)) {
                    if (seen.add(q)) {
                        queue.add(q);
                    }
                }
            }
        }
        return -1;
    }

    private boolean canEnd(int[][] spoken, Pair p, int left, Map<String, Boolean> known) {
        if (left == 0) {
            return p.differ && ended(spoken, p.a) && ended(spoken, p.b);
        }
        String key = left + ":" + p;
        Boolean k = known.get(key);
        if (k == null) {
            k = false;
            for (Pair q : next(spoken, p, 0, -1)) {
                if (canEnd(spoken, q, left - 1, known)) {
                    k = true;
                    break;
                }
            }
            known.put(key, k);
        }
        return k;
    }

    /** The first line of so many sounds that two sentences are said as. */
    int[] unsureLine(int length) {
        int[][] spoken = spoken(0);
        Map<String, Boolean> known = new HashMap<>();
        Set<Pair> now = new HashSet<>();
        now.add(new Pair(-1, -1, 0, 0, false));
        int[] line = new int[length];
        for (int i = 0; i < length; i++) {
            for (int sound = 0; sound < sounds; sound++) {
                Set<Pair> then = new HashSet<>();
                for (Pair p : now) {
                    for (Pair q : next(spoken, p, 0, sound)) {
                        if (canEnd(spoken, q, length - i - 1, known)) {
                            then.add(q);
                        }
                    }
                }
                if (!then.isEmpty()) {
                    line[i] = sound;
                    now = then;
                    break;
                }
            }
        }
        return line;
    }

    boolean isSure() {
        return unsure(0, 0) < 0;
    }

    int bears() {
        int m = 2;
        while (m >= 0 && unsure(m, 0) >= 0) {
            m--;
        }
        return m;
    }

    Oracle with(int[] row, int kind) {
        Oracle o = twin();
        o.words.add(row);
        o.uses.add(0);
        o.kinds.add(kind);
        return o;
    }

    /** Sounds, and behind them the least cost; null. */
    int[] added(int kind) {
        int[] best = null;
        int bestCost = 0;
        for (int n = 1; n <= 3; n++) {
            int all = (int) Math.pow(sounds, n);
            for (int number = 0; number < all; number++) {
                int[] row = new int[n];
                int rest = number;
                for (int i = n - 1; i >= 0; i--) {
                    row[i] = rest % sounds;
                    rest /= sounds;
                }
                if (find(row) < 0 && (shapes.isEmpty() || hasShape(row))) {
                    int cost = -1;
                    for (int[] w : words) {
                        int c = unlike(row, w);
                        cost = cost < 0 ? c : Math.min(cost, c);
                    }
                    if ((best == null || cost > bestCost) && with(row, kind).isSure()) {
                        best = row;
                        bestCost = cost;
                    }
                }
            }
        }
        if (best == null) {
            return null;
        }
        int[] answer = Arrays.copyOf(best, best.length + 1);
        answer[best.length] = bestCost;
        return answer;
    }

    boolean hasShape(int[] row) {
        for (boolean[] shape : shapes) {
            boolean fits = shape.length == row.length;
            for (int i = 0; fits && i < row.length; i++) {
                fits = shape[i] == open[row[i]];
            }
            if (fits) {
                return true;
            }
        }
        return false;
    }

    /** Bits, or -1. */
    int mended() {
        for (int few = 0; few <= 3; few++) {
            for (int bits = 0; bits < 1 << words.size(); bits++) {
                if (Integer.bitCount(bits) == few && without(bits).isSure()) {
                    return bits;
                }
            }
        }
        return -1;
    }

    private Oracle without(int bits) {
        Oracle o = twin();
        for (int w = words.size() - 1; w >= 0; w--) {
            if ((bits >> w & 1) != 0) {
                o.words.remove(w);
                o.uses.remove(w);
                o.kinds.remove(w);
            }
        }
        return o;
    }

    int[] changed() {
        for (int w = 0; w < words.size(); w++) {
            for (int place = 0; place < words.get(w).length; place++) {
                for (int s = 0; s < sounds; s++) {
                    int[] row = words.get(w).clone();
                    row[place] = s;
                    if (s != words.get(w)[place] && find(row) < 0) {
                        Oracle o = twin();
                        o.words.set(w, row);
                        if (o.isSure()) {
                            return new int[] {w, place, s};
                        }
                    }
                }
            }
        }
        return new int[] {-1, -1, -1};
    }

    int paused() {
        for (int few = 0; few <= 4; few++) {
            for (int bits = 0; bits < 16; bits++) {
                if (Integer.bitCount(bits) == few && unsure(0, bits) < 0) {
                    return bits;
                }
            }
        }
        return -1;
    }

    // ---- costs: the words are really made over, one change at a time

    int unlike(int[] from, int[] to) {
        return alignment(from, 0, to, 0);
    }

    private int alignment(int[] a, int i, int[] b, int j) {
        if (i == a.length || j == b.length) {
            return 2 * (a.length - i + b.length - j);
        }
        int instead = a[i] == b[j] ? 0 : like[a[i]][b[j]] ? 1 : 2;
        int best = instead + alignment(a, i + 1, b, j + 1);
        best = Math.min(best, 2 + alignment(a, i + 1, b, j));
        return Math.min(best, 2 + alignment(a, i, b, j + 1));
    }

    /** By changes of the whole row, in any order, the cheapest first; for short rows of few sounds. */
    int unlikeByChanges(int[] from, int[] to) {
        int most = Math.max(from.length, to.length) + 1;
        Map<String, Integer> cost = new HashMap<>();
        PriorityQueue<Map.Entry<Integer, String>> queue = new PriorityQueue<>(Map.Entry.comparingByKey());
        queue.add(Map.entry(0, letters(from)));
        String goal = letters(to);
        while (!queue.isEmpty()) {
            Map.Entry<Integer, String> e = queue.poll();
            String s = e.getValue();
            if (cost.putIfAbsent(s, e.getKey()) != null) {
                continue;
            }
            if (s.equals(goal)) {
                return e.getKey();
            }
            for (int i = 0; i <= s.length(); i++) {
                for (int x = 0; x < sounds; x++) {
                    char c = (char) ('a' + x);
                    if (s.length() < most) {
                        queue.add(Map.entry(e.getKey() + 2, s.substring(0, i) + c + s.substring(i)));
                    }
                    if (i < s.length() && s.charAt(i) != c) {
                        int step = like[s.charAt(i) - 'a'][x] ? 1 : 2;
                        queue.add(Map.entry(e.getKey() + step, s.substring(0, i) + c + s.substring(i + 1)));
                    }
                }
                if (i < s.length()) {
                    queue.add(Map.entry(e.getKey() + 2, s.substring(0, i) + s.substring(i + 1)));
                }
            }
        }
        return -1;
    }

    int fit(int[] row, int i, boolean[] shape, int j) {
        if (i == row.length || j == shape.length) {
            return 2 * (row.length - i + shape.length - j);
        }
        int instead = 2;
        for (int s = 0; s < sounds; s++) {
            if (open[s] == shape[j] && like[row[i]][s]) {
                instead = 1;
            }
        }
        if (open[row[i]] == shape[j]) {
            instead = 0;
        }
        int best = instead + fit(row, i + 1, shape, j + 1);
        best = Math.min(best, 2 + fit(row, i + 1, shape, j));
        return Math.min(best, 2 + fit(row, i, shape, j + 1));
    }

    // ---- talk

    /** All lengths of rows by which none need begin another one, tried out; for few words. */
    int code(int n) {
        if (words.size() == 1) {
            return uses.get(0);
        }
        int longest = words.size();
        long whole = 1;
        for (int i = 0; i < longest; i++) {
            whole *= n;
        }
        return words.isEmpty() ? 0 : codeFrom(0, n, longest, whole, whole);
    }

    private int codeFrom(int w, int n, int longest, long whole, long left) {
        if (w == words.size()) {
            return 0;
        }
        int best = -1;
        long part = whole;
        for (int length = 1; length <= longest; length++) {
            part /= n;
            if (part <= left) {
                int rest = codeFrom(w + 1, n, longest, whole, left - part);
                if (rest >= 0 && (best < 0 || rest + length * uses.get(w) < best)) {
                    best = rest + length * uses.get(w);
                }
            }
        }
        return best;
    }

    /** Which numbers of sounds up to 200 some sentence has. */
    boolean[] saidAtAll() {
        boolean[][] row = new boolean[201][4];
        boolean[] any = new boolean[201];
        for (int n = 1; n <= 200; n++) {
            for (int w = 0; w < words.size(); w++) {
                int ahead = n - words.get(w).length;
                boolean can = ahead == 0;
                for (int k = 0; ahead > 0 && k < 4; k++) {
                    can |= row[ahead][k] && !never[k][kinds.get(w)];
                }
                row[n][kinds.get(w)] |= can;
                any[n] |= can && !notLast[kinds.get(w)];
            }
        }
        return any;
    }

    /** Beginnings with how many words have them, in order by length falling, then by sounds. */
    Map<String, Integer> beginnings() {
        Map<String, Integer> found = new TreeMap<>((x, y) ->
                x.length() != y.length() ? y.length() - x.length() : x.compareTo(y));
        for (int[] w : words) {
            String s = letters(w);
            for (int n = 0; n <= s.length(); n++) {
                found.merge(s.substring(0, n), 1, Integer::sum);
            }
        }
        return found;
    }
}
