import java.util.ArrayList;
import java.util.List;
import java.util.Map;
import java.util.Random;

/** Tongues by chance: the class must answer as the Oracle, which tries everything out. */
public final class OracleTest {
    private static final Bench B = new Bench("oracle");
    private static final int TOO_MANY = 3000;

    /** Two sentences of 115 sounds are the shortest that are said alike here. */
    private static Oracle longUnsure() {
        Oracle o = new Oracle();
        o.sounds = 2;
        o.notLast = new boolean[] {true, true, true, false};
        int[][] nevers = {{0, 1}, {0, 3}, {1, 2}, {1, 3}, {2, 0}, {2, 1}, {3, 0}, {3, 2}};
        for (int[] never : nevers) {
            o.never[never[0]][never[1]] = true;
        }
        String[] words = {"aabbb", "bb", "bbbbba", "bbabaa", "babaab", "abbbab", "bbbaba", "babab", "aaaaaa", "aaabbb",
            "abaaaa", "abaaab"};
        int[] kinds = {3, 0, 2, 1, 2, 3, 3, 3, 2, 1, 3, 3};
        for (int w = 0; w < words.length; w++) {
            o.words.add(words[w].chars().map(c -> c - 'a').toArray());
            o.uses.add(1);
            o.kinds.add(kinds[w]);
        }
        return o;
    }

    public static void main(String[] args) {
        Oracle unsure = longUnsure();
        B.tongue(unsure.text());
        B.due("the long one", B.x.unsure(0), 115);
        sure(unsure, unsure.text(), new Random(3));
        int tongues = args.length > 0 ? Integer.parseInt(args[0]) : 250;
        long seed = args.length > 1 ? Long.parseLong(args[1]) : 1;
        Random r = new Random(seed);
        for (int i = 0; i < tongues; i++) {
            Oracle o = Oracle.byChance(r);
            // mostly one object goes on: what it kept of another tongue must not come back
            if (r.nextInt(4) == 0) {
                B.anew();
            }
            String text = o.text();
            if (text.length() > 500) {
                continue;
            }
            int lines = text.split(";", -1).length - 1;
            B.due("tongue " + text, B.tongue(text), lines);
            told(o, text);
            for (int k = 0; k < 4; k++) {
                lines(o, text, r);
            }
            warmUp(r);
            sure(o, text, r);
            costs(o, text, r);
            talk(o, text, r);
        }
        for (int i = 0; i < 2 * tongues; i++) {
            Oracle o = Oracle.strictByChance(r);
            String text = o.text();
            if (text.length() <= 500) {
                B.tongue(text);
                unsure(o, text);
            }
        }
        B.end();
    }

    /** Calls in another order: what one looked for must not tell in the next. */
    private static void warmUp(Random r) {
        int calls = r.nextInt(4);
        for (int i = 0; i < calls; i++) {
            switch (r.nextInt(6)) {
                case 0: B.x.added(r.nextInt(4), 0); break;
                case 1: B.x.mended(0); break;
                case 2: B.x.changed(0); break;
                case 3: B.x.paused(0); break;
                case 4: B.x.unsureAt(0); break;
                default: B.x.unsure(2); break;
            }
        }
    }

    private static void told(Oracle o, String text) {
        B.due("words of " + text, B.x.count(2), o.words.size());
        for (int w = 0; w < o.words.size(); w++) {
            B.due("length of " + w, B.x.word(w, 0), o.words.get(w).length);
            B.due("use of " + w, B.x.word(w, 1), o.uses.get(w));
            B.due("kind of " + w, B.x.word(w, 2), o.kinds.get(w));
            B.due("spelt " + w, B.spelt(Oracle.letters(o.words.get(w))), w);
        }
    }

    private static int[] anyLine(Oracle o, Random r) {
        int n = 1 + r.nextInt(8);
        int[] line = new int[n];
        for (int i = 0; i < n; i++) {
            line[i] = r.nextInt(o.sounds);
        }
        // most lines are said words, some sounds of them taken for like ones
        if (!o.words.isEmpty() && r.nextInt(4) != 0) {
            int[] row = new int[1 + r.nextInt(4)];
            for (int i = 0; i < row.length; i++) {
                row[i] = r.nextInt(o.words.size());
            }
            line = o.saidAs(row);
            for (int i = 0; i < line.length; i++) {
                int other = r.nextInt(o.sounds);
                if (r.nextInt(4) == 0 && o.like[line[i]][other]) {
                    line[i] = other;
                }
            }
        }
        return line;
    }

    private static void lines(Oracle o, String text, Random r) {
        int[] line = anyLine(o, r);
        List<int[]> all = o.sentences(line.length, TOO_MANY);
        if (all == null) {
            return;
        }
        String told = text + " line " + Oracle.letters(line) + ": ";
        B.due(told + "line", B.line(Oracle.letters(line)), line.length);
        for (int m = 0; m <= 2; m++) {
            B.due(told + "cuts(" + m + ")", B.x.cuts(m), o.cuts(all, line, m).size());
        }
        List<int[]> plain = o.cuts(all, line, 0);
        cut(told, 0, plain.size() > 0 ? plain.get(0) : null);
        cut(told, 1, plain.size() > 1 ? plain.get(1) : null);
        cut(told, 2, o.mostUse(plain));
        int[] heard = o.heard(all, line);
        cut(told, 3, heard);
        B.due(told + "mistakes", B.x.mistakes(), heard == null ? -1 : o.mistakes(o.saidAs(heard), line));
        for (int i = 1; i <= line.length; i++) {
            int count = 0;
            for (int[] s : plain) {
                count += o.endsAt(s, i) ? 1 : 0;
            }
            B.due(told + "bound(" + i + ")", B.x.bound(i), count);
        }
        if (!all.isEmpty()) {
            noise(o, told, all, all.get(r.nextInt(all.size())), r);
        }
    }

    private static void cut(String told, int which, int[] due) {
        B.due(told + "cut(" + which + ", NONE)", B.x.cut(which, -1), due == null ? -1 : due.length);
        int n = due == null ? 0 : due.length;
        for (int k = 0; k <= n; k++) {
            B.due(told + "cut(" + which + ", " + k + ")", B.x.cut(which, k), k < n ? due[k] : -1);
        }
        B.row(3, new long[40]);
        B.due(told + "copy(" + which + ")", B.x.copy(which, 3), due == null ? -5 : n);
        if (due != null) {
            B.x.numbers(3, 1, n);
            B.x.copy(which, 3);
            B.due(told + "judge(3, 1)", B.x.judge(3, 1), 1);
        }
    }

    private static void noise(Oracle o, String told, List<int[]> all, int[] sentence, Random r) {
        long[] row = new long[sentence.length];
        for (int i = 0; i < row.length; i++) {
            row[i] = sentence[i];
        }
        B.row(2, row);
        int seed = r.nextInt();
        int hundredths = r.nextInt(101);
        int x = seed;
        int asked = -1;
        for (int time = 1; time <= 9 && asked < 0; time++) {
            int[] said = o.saidAs(sentence);
            int made = 0;
            for (int i = 0; i < said.length; i++) {
                List<Integer> others = new ArrayList<>();
                for (int s = 0; s < o.sounds; s++) {
                    if (o.like[said[i]][s]) {
                        others.add(s);
                    }
                }
                if (!others.isEmpty()) {
                    x = 1103515245 * x + 12345;
                    if ((x >>> 16) % 100 < hundredths) {
                        x = 1103515245 * x + 12345;
                        said[i] = others.get((x >>> 16) % others.size());
                        made++;
                    }
                }
                if (time == 1) {
                    B.due(told + "noise sound " + i, B.x.noise(2, seed, hundredths, 10 + i), said[i]);
                }
            }
            boolean understood = java.util.Arrays.equals(o.heard(all, said), sentence);
            if (time == 1) {
                B.due(told + "noise 0", B.x.noise(2, seed, hundredths, 0), made);
                B.due(told + "noise 1", B.x.noise(2, seed, hundredths, 1), understood ? 1 : 0);
            }
            asked = understood ? time : -1;
        }
        B.due(told + "asked", B.x.asked(2, seed, hundredths), asked);
    }

    private static void unsure(Oracle o, String text) {
        for (int m = 0; m <= 2; m++) {
            B.due(text + " unsure(" + m + ")", B.x.unsure(m), o.unsure(m, 0));
        }
        int length = o.unsure(0, 0);
        int[] line = length < 0 ? new int[0] : o.unsureLine(length);
        for (int i = 0; i <= line.length; i++) {
            B.due(text + " unsureAt(" + i + ")", B.x.unsureAt(i), i < line.length ? line[i] : -1);
        }
        if (length > 0 && length <= 40) {
            B.line(Oracle.letters(line));
            B.due(text + " the unsure line has two cuts", B.x.cuts(0) >= 2 ? 1 : 0, 1);
        }
    }

    private static void sure(Oracle o, String text, Random r) {
        unsure(o, text);
        B.due(text + " bears", B.x.bears(), o.bears());
        int kind = r.nextInt(4);
        int[] added = o.added(kind);
        int n = added == null ? 0 : added.length - 1;
        B.due(text + " added(" + kind + ", 0)", B.x.added(kind, 0), added == null ? -1 : n);
        B.due(text + " added(" + kind + ", 1)", B.x.added(kind, 1), added == null ? -1 : added[n]);
        for (int k = 0; k < 3; k++) {
            B.due(text + " added(" + kind + ", 10 + " + k + ")", B.x.added(kind, 10 + k), k < n ? added[k] : -1);
        }
        for (int k = 0; k < 6; k++) {
            int[] row = new int[1 + r.nextInt(6)];
            for (int i = 0; i < row.length; i++) {
                row[i] = r.nextInt(o.sounds);
            }
            int m = r.nextInt(3);
            int due = o.find(row) >= 0 ? -9 : o.with(row, kind).unsure(m, 0) < 0 ? 1 : 0;
            B.due(text + " adds " + Oracle.letters(row), B.adds(kind, Oracle.letters(row), m), due);
        }
        int mended = o.mended();
        B.due(text + " mended(1)", B.x.mended(1), mended);
        B.due(text + " mended(0)", B.x.mended(0), mended < 0 ? -1 : Integer.bitCount(mended));
        int[] changed = o.changed();
        for (int what = 0; what < 3; what++) {
            B.due(text + " changed(" + what + ")", B.x.changed(what), changed[what]);
        }
        int paused = o.paused();
        B.due(text + " paused(1)", B.x.paused(1), paused);
        B.due(text + " paused(0)", B.x.paused(0), Integer.bitCount(paused));
    }

    private static void costs(Oracle o, String text, Random r) {
        for (int w = 0; w < o.words.size(); w++) {
            int near = -1;
            for (int v = 0; v < o.words.size(); v++) {
                int cost = o.unlike(o.words.get(w), o.words.get(v));
                B.due(text + " unlike(" + w + ", " + v + ")", B.x.unlike(w, v), cost);
                boolean few = o.sounds <= 3 && o.words.get(w).length <= 3 && o.words.get(v).length <= 3;
                if (few && v < w) {
                    B.due(text + " by changes", cost, o.unlikeByChanges(o.words.get(w), o.words.get(v)));
                }
                if (v != w && (near < 0 || cost < o.unlike(o.words.get(w), o.words.get(near)))) {
                    near = v;
                }
            }
            B.due(text + " near(" + w + ")", B.x.near(w), near);
        }
        for (int k = 0; k < 5; k++) {
            int[] row = new int[r.nextInt(k == 0 ? 13 : 7)];
            for (int i = 0; i < row.length; i++) {
                row[i] = r.nextInt(o.sounds);
            }
            int best = -1;
            int least = -1;
            for (int s = 0; s < o.shapes.size(); s++) {
                int cost = o.fit(row, 0, o.shapes.get(s), 0);
                if (best < 0 || cost < least) {
                    best = s;
                    least = cost;
                }
            }
            B.due(text + " fitted cost " + Oracle.letters(row), B.fitted(Oracle.letters(row), 0), least);
            B.due(text + " fitted shape " + Oracle.letters(row), B.fitted(Oracle.letters(row), 1), best);
        }
    }

    private static void talk(Oracle o, String text, Random r) {
        int talk = 0;
        for (int w = 0; w < o.words.size(); w++) {
            talk += o.uses.get(w) * o.words.get(w).length;
        }
        B.due(text + " talk", B.x.talk(), talk);
        for (int n = 2; n <= 8 && o.words.size() <= 5; n++) {
            B.due(text + " code(" + n + ")", B.x.code(n), o.code(n));
        }
        for (int n = 1; n <= 9; n++) {
            List<int[]> all = o.sentences(n, TOO_MANY);
            if (all == null) {
                break;
            }
            B.due(text + " said(" + n + ")", B.x.said(n), all.size());
            int[] best = o.mostUse(all);
            B.due(text + " richest(" + n + ")", B.x.richest(n, -1), best == null ? -1 : o.usesOf(best));
            int count = best == null ? 0 : best.length;
            for (int k = 0; k <= count; k++) {
                B.due(text + " richest(" + n + ", " + k + ")", B.x.richest(n, k), k < count ? best[k] : -1);
            }
        }
        boolean[] any = o.saidAtAll();
        int longest = -1;
        for (int n = 1; n <= 200; n++) {
            longest = any[n] ? n : longest;
        }
        B.due(text + " endless", B.x.endless(), longest > 100 ? 1 : 0);
        B.due(text + " longest", B.x.longest(), longest > 100 ? -1 : longest);
        begun(o, text);
        limbs(o, text);
    }

    private static void begun(Oracle o, String text) {
        int first = -1;
        int second = -1;
        for (int w = 0; w < o.words.size() && first < 0; w++) {
            for (int v = 0; v < o.words.size() && first < 0; v++) {
                if (v != w && Oracle.letters(o.words.get(v)).startsWith(Oracle.letters(o.words.get(w)))) {
                    first = w;
                    second = v;
                }
            }
        }
        B.due(text + " begun(0)", B.x.begun(0), first);
        B.due(text + " begun(1)", B.x.begun(1), second);
    }

    private static void limbs(Oracle o, String text) {
        Map<String, Integer> beginnings = o.beginnings();
        B.due(text + " tree", B.x.tree(), Math.max(1, beginnings.size()));
        for (int k = 1; k <= 12; k++) {
            String limb = null;
            for (Map.Entry<String, Integer> e : beginnings.entrySet()) {
                if (limb == null && e.getValue() >= k) {
                    limb = e.getKey();
                }
            }
            B.due(text + " limb(" + k + ", 0)", B.x.limb(k, 0), limb == null ? -1 : limb.length());
            B.due(text + " limb(" + k + ", 1)", B.x.limb(k, 1), limb == null ? -1 : beginnings.get(limb));
            for (int i = 0; i < 6; i++) {
                boolean there = limb != null && i < limb.length();
                B.due(text + " limb(" + k + ", 10 + " + i + ")", B.x.limb(k, 10 + i), there ? limb.charAt(i) - 'a' : -1);
            }
        }
    }
}
