import java.util.ArrayList;
import java.util.Collections;
import java.util.List;
import java.util.Random;

/**
 * Runs of 512 calls on one object, beside the Model: every answer must be the Model's, so what a call leaves behind
 * (THE TAPE, THE TONGUE, THE LINE, ROWS, IMAGES) is seen by all calls that come later.
 */
public final class RunsTest {
    private static final int CALLS = 512;
    private static final int MOST_SHOWN = 20;
    private static final int[] EDGES = {Integer.MIN_VALUE, -4, -3, -2, -1, 0, 1, 2, 3, 4, 5, 6, 9, 10, 12, 13, 15, 16, 20,
        39, 40, 41, 49, 50, 60, 61, 99, 100, 101, 500, 501, Integer.MAX_VALUE - 9, Integer.MAX_VALUE};
    private static final String SIGNS = "abcdefghos ;;0123456789\n!A\u00e4";

    private static int answers = 0;
    private static int wrong = 0;

    private final Random r;
    private final OneBreath x = new OneBreath();
    private final Model m = new Model();
    private final List<String> calls = new ArrayList<>();
    private boolean lost = false;

    private RunsTest(long seed) {
        r = new Random(seed);
    }

    public static void main(String[] args) {
        int runs = args.length > 0 ? Integer.parseInt(args[0]) : 150;
        long seed = args.length > 1 ? Long.parseLong(args[1]) : 1;
        for (int i = 0; i < runs; i++) {
            new RunsTest(seed * 1000003 + i).run();
        }
        System.out.println("runs: " + answers + " answers, " + wrong + " not as due");
        if (wrong != 0) {
            System.exit(1);
        }
    }

    private void run() {
        while (calls.size() < CALLS && !lost) {
            switch (r.nextInt(12)) {
                case 0: tell(); break;
                case 1: case 2: spell(); break;
                case 3: row(); break;
                case 4: sayMuch(); break;
                case 5: askTape(small(m.count(5) + 1)); break;
                default: askMuch(); break;
            }
        }
    }

    /** Both have answered: behind the last call of a run nothing is promised, and behind a wrong answer nothing helps. */
    private void same(String call, long got, long due) {
        if (lost || calls.size() >= CALLS) {
            return;
        }
        answers++;
        calls.add(call + " = " + got);
        if (got != due) {
            lost = true;
            wrong++;
            System.out.println("runs: " + call + " answered " + got + ", due is " + due + ", behind:");
            for (String c : calls.subList(Math.max(0, calls.size() - MOST_SHOWN), calls.size() - 1)) {
                System.out.println("    " + c);
            }
        }
    }

    private int any() {
        return r.nextInt(6) == 0 ? EDGES[r.nextInt(EDGES.length)] : r.nextInt(4);
    }

    /** Mostly below a bound, sometimes any. */
    private int small(int bound) {
        return r.nextInt(10) == 0 ? any() : r.nextInt(bound);
    }

    /** As what asks for SOUNDS: 0, 1, 10 and so on. */
    private int what(int sounds) {
        return r.nextInt(3) == 0 ? r.nextInt(3) : 10 + small(sounds);
    }

    private void feed(String text) {
        for (int i = 0; i < text.length(); i += 20) {
            int[] five = new int[5];
            for (int k = 0; k < 20; k++) {
                int sign = i + k < text.length() ? text.charAt(i + k) : r.nextInt(4) == 0 ? 'a' + r.nextInt(8) : ' ';
                five[k / 4] |= sign << 24 - 8 * (k % 4);
            }
            same("feed('" + text.substring(i, Math.min(i + 20, text.length())) + "')",
                    x.feed(five[0], five[1], five[2], five[3], five[4]), m.feed(five));
        }
    }

    private void empty() {
        if (m.count(5) > 0) {
            same("spelt(0)", x.spelt(0), m.spelt(0));
        }
    }

    // ---- THE TONGUE

    private void tell() {
        if (r.nextInt(8) != 0) {
            empty();
        }
        int sort = r.nextInt(8);
        Oracle o = sort < 2 ? Oracle.strictByChance(r) : sort == 2 ? Oracle.fullByChance(r) : Oracle.byChance(r);
        String text = text(o);
        while (text.length() > 500) {
            text = text.substring(0, text.lastIndexOf(';', text.length() - 2) + 1);
        }
        if (r.nextInt(4) == 0) {
            text = spoilt(text);
        }
        text = text.substring(0, Math.min(text.length(), 500 - m.count(5) - m.count(5) % 20));
        feed(text);
        int n = r.nextInt(12) == 0 ? small(501) : text.length();
        same("tongue(" + n + ") of '" + text + "'", x.tongue(n), m.tongue(n));
        for (int what = 0; what < 2; what++) {
            same("fault(" + what + ")", x.fault(what), m.fault(what));
        }
        if (r.nextInt(4) != 0) {
            spell();
        }
    }

    /** A TEXT with letters, an order of LINES and blanks by chance. */
    private String text(Oracle o) {
        List<String> alphabet = new ArrayList<>(List.of("abcdefghijklmnopqrstuvwxyz".split("")));
        if (r.nextInt(3) == 0) {
            Collections.shuffle(alphabet, r);
        }
        String letters = String.join("", alphabet.subList(0, o.sounds));
        List<String> free = new ArrayList<>();
        List<String> lines = new ArrayList<>();
        for (int a = 0; a < 4; a++) {
            for (int b = 0; b < 4; b++) {
                if (o.never[a][b]) {
                    (r.nextInt(4) == 0 ? free : lines).add("never " + a + " " + b);
                }
            }
            if (o.notLast[a]) {
                (r.nextInt(4) == 0 ? free : lines).add("last " + a);
            }
        }
        StringBuilder open = new StringBuilder();
        for (int s = 0; s < o.sounds; s++) {
            open.append(o.open[s] ? letters.substring(s, s + 1) : "");
            for (int k = 0; k < s; k++) {
                if (o.like[s][k]) {
                    lines.add("like " + letters.charAt(s) + " " + letters.charAt(k));
                }
            }
        }
        if (open.length() > 0) {
            lines.add("open " + open);
        }
        if (r.nextInt(5) == 0) {
            lines.add("open " + letters.charAt(r.nextInt(o.sounds)));
        }
        for (int w = 0; w < o.words.size(); w++) {
            lines.add("word " + spelled(o.words.get(w), letters) + " use " + number(o.uses.get(w)) + " kind "
                    + number(o.kinds.get(w)));
        }
        for (boolean[] shape : o.shapes) {
            StringBuilder b = new StringBuilder("shape ");
            for (boolean isOpen : shape) {
                b.append(isOpen ? 'o' : 's');
            }
            lines.add(b.toString());
        }
        Collections.shuffle(lines, r);
        free.add("sounds " + letters);
        free.addAll(lines);
        String between = r.nextInt(4) == 0 ? "\n" : "";
        return String.join(";" + between, free) + ";";
    }

    private String number(int n) {
        return r.nextInt(8) == 0 && n < 10 ? "00" + n : "" + n;
    }

    private static String spelled(int[] row, String letters) {
        StringBuilder b = new StringBuilder();
        for (int s : row) {
            b.append(letters.charAt(s));
        }
        return b.toString();
    }

    /** One sign, TOKEN or LINE is left out, told twice, or another one. */
    private String spoilt(String text) {
        int i = r.nextInt(text.length());
        switch (r.nextInt(6)) {
            case 0:
                return text.substring(0, i);
            case 1:
                return text.substring(0, i) + text.substring(i + 1);
            case 2:
                return text.substring(0, i) + SIGNS.charAt(r.nextInt(SIGNS.length())) + text.substring(i + 1);
            case 3:
                return text.substring(0, i) + SIGNS.charAt(r.nextInt(SIGNS.length())) + text.substring(i);
            case 4:
                List<String> lines = new ArrayList<>(List.of(text.split("(?<=;)")));
                lines.add(lines.get(r.nextInt(lines.size())));
                return String.join("", lines);
            default:
                List<String> tokens = new ArrayList<>(List.of(text.split("(?<=[ ;])")));
                tokens.set(r.nextInt(tokens.size()), tokens.get(r.nextInt(tokens.size())));
                return String.join("", tokens);
        }
    }

    // ---- what THE TAPE spells

    /** SOUNDS by chance, or some WORDS as they are said, a few SOUNDS of them taken for others. */
    private String soundsByChance(int most) {
        Oracle o = m.oracle();
        StringBuilder b = new StringBuilder();
        if (o.sounds == 0) {
            return "";
        }
        boolean words = !o.words.isEmpty() && r.nextInt(5) != 0;
        int n = Math.max(1, r.nextInt(most + 1));
        while (b.length() < n) {
            int[] row = words ? o.words.get(r.nextInt(o.words.size())) : new int[] {r.nextInt(o.sounds)};
            b.append(spelled(row, m.letters()));
        }
        for (int i = 0; i < b.length(); i++) {
            if (r.nextInt(12) == 0) {
                b.setCharAt(i, r.nextInt(20) == 0 ? 'A' : m.letters().charAt(r.nextInt(o.sounds)));
            }
        }
        return b.substring(0, r.nextInt(4) == 0 ? n : Math.min(b.length(), most));
    }

    private void spell() {
        if (r.nextInt(8) != 0) {
            empty();
        }
        String text = soundsByChance(r.nextInt(4) == 0 ? 42 : r.nextBoolean() ? 12 : 6);
        feed(text);
        askTape(r.nextInt(15) == 0 ? any() : text.length());
    }

    private void askTape(int n) {
        int a = small(4);
        switch (r.nextInt(8)) {
            case 0:
                same("spelt(" + n + ")", x.spelt(n), m.spelt(n));
                break;
            case 1:
                int mistakes = small(3);
                same("adds(" + a + ", " + n + ", " + mistakes + ")", x.adds(a, n, mistakes), m.adds(a, n, mistakes));
                break;
            case 2:
                int what = small(2);
                same("fitted(" + n + ", " + what + ")", x.fitted(n, what), m.fitted(n, what));
                break;
            default:
                same("line(" + n + ")", x.line(n), m.line(n));
                break;
        }
    }

    // ---- ROWS OF NUMBERS

    private void row() {
        int row = small(4);
        int sort = small(4);
        int n = small(r.nextInt(3) == 0 ? 41 : 6);
        same("numbers(" + row + ", " + sort + ", " + n + ")", x.numbers(row, sort, n), m.numbers(row, sort, n));
        int words = Math.max(1, m.count(2));
        for (int i = 0; i < n && i < 8; i++) {
            write(row, i, r.nextInt(words));
        }
        if (r.nextInt(4) == 0) {
            long v = r.nextBoolean() ? r.nextLong() : r.nextInt(1000) - 300;
            write(small(4), any(), v);
        }
    }

    private void write(int row, int i, long v) {
        same("write(" + row + ", " + i + ", " + v + ")", x.write(row, i, v), m.write(row, i, v));
    }

    /** A SENTENCE by chance, if there is one, comes into a ROW and is said through NOISE, or is THE LINE. */
    private void sayMuch() {
        Oracle o = m.oracle();
        List<Integer> words = new ArrayList<>();
        for (int tries = 0; tries < 30 && words.size() < 6; tries++) {
            int w = o.words.isEmpty() ? 0 : r.nextInt(o.words.size());
            words.add(w);
            int[] row = words.stream().mapToInt(k -> k).toArray();
            boolean may = !o.words.isEmpty() && (row.length == 1
                    || !o.never[o.kinds.get(row[row.length - 2])][o.kinds.get(w)]);
            if (!may) {
                words.remove(words.size() - 1);
            } else if (o.isSentence(row) && r.nextInt(3) == 0) {
                break;
            }
        }
        int row = r.nextInt(4);
        int sort = r.nextInt(4);
        same("numbers(" + row + ", " + sort + ", " + words.size() + ")", x.numbers(row, sort, words.size()),
                m.numbers(row, sort, words.size()));
        for (int i = 0; i < words.size(); i++) {
            write(row, i, words.get(i));
        }
        same("judge(" + row + ", 1)", x.judge(row, 1), m.judge(row, 1));
        for (int times = 0; times < 2; times++) {
            noise(row);
        }
        if (r.nextBoolean()) {
            same("say(" + row + ")", x.say(row), m.say(row));
        }
    }

    private void noise(int row) {
        int seed = r.nextInt();
        int hundredths = r.nextInt(12) == 0 ? any() : r.nextInt(101);
        int what = what(20);
        same("noise(" + row + ", " + seed + ", " + hundredths + ", " + what + ")",
                x.noise(row, seed, hundredths, what), m.noise(row, seed, hundredths, what));
        same("asked(" + row + ", " + seed + ", " + hundredths + ")",
                x.asked(row, seed, hundredths), m.asked(row, seed, hundredths));
    }

    // ---- what changes nothing, and IMAGES

    private void askMuch() {
        for (int i = r.nextInt(12); i >= 0; i--) {
            ask();
        }
    }

    private void ask() {
        switch (r.nextInt(6)) {
            case 0: askTongue(); break;
            case 1: askLine(); break;
            case 2: askSure(); break;
            case 3: askTalk(); break;
            case 4: askRows(); break;
            default: askImages(); break;
        }
    }

    private void askTongue() {
        int a = small(r.nextBoolean() ? 4 : 12);
        int b = small(r.nextBoolean() ? 4 : 12);
        int what = what(6);
        switch (r.nextInt(9)) {
            case 0: same("sound(" + a + ", " + b + ")", x.sound(a, b), m.sound(a, b)); break;
            case 1: same("word(" + a + ", " + what + ")", x.word(a, what), m.word(a, what)); break;
            case 2: same("shape(" + a + ", " + (b - 1) + ")", x.shape(a, b - 1), m.shape(a, b - 1)); break;
            case 3: same("behind(" + a + ")", x.behind(a), m.behind(a)); break;
            case 4: same("ends(" + a + ")", x.ends(a), m.ends(a)); break;
            case 5: same("unlike(" + a + ", " + b + ")", x.unlike(a, b), m.unlike(a, b)); break;
            case 6: same("near(" + a + ")", x.near(a), m.near(a)); break;
            case 7: same("fault(" + b + ")", x.fault(b), m.fault(b)); break;
            default: same("count(" + a + ")", x.count(a), m.count(a)); break;
        }
    }

    private void askLine() {
        int i = small(r.nextBoolean() ? 8 : 41);
        int which = small(4);
        int k = small(6) - 1;
        int mistakes = small(3);
        switch (r.nextInt(6)) {
            case 0: same("at(" + i + ")", x.at(i), m.at(i)); break;
            case 1: same("cuts(" + mistakes + ")", x.cuts(mistakes), m.cuts(mistakes)); break;
            case 2: same("mistakes()", x.mistakes(), m.mistakes()); break;
            case 3: same("bound(" + i + ")", x.bound(i), m.bound(i)); break;
            default: same("cut(" + which + ", " + k + ")", x.cut(which, k), m.cut(which, k)); break;
        }
    }

    private void askSure() {
        int i = small(r.nextBoolean() ? 4 : 30);
        int what = small(3);
        int kind = small(4);
        int mistakes = small(3);
        int asks = what(3);
        switch (r.nextInt(9)) {
            case 0: same("unsure(" + mistakes + ")", x.unsure(mistakes), m.unsure(mistakes)); break;
            case 1: same("unsureAt(" + i + ")", x.unsureAt(i), m.unsureAt(i)); break;
            case 2: same("bears()", x.bears(), m.bears()); break;
            case 3: same("mended(" + what + ")", x.mended(what), m.mended(what)); break;
            case 4: same("changed(" + what + ")", x.changed(what), m.changed(what)); break;
            case 5: same("paused(" + what + ")", x.paused(what), m.paused(what)); break;
            case 6: same("begun(" + what + ")", x.begun(what), m.begun(what)); break;
            default: same("added(" + kind + ", " + asks + ")", x.added(kind, asks), m.added(kind, asks)); break;
        }
    }

    private void askTalk() {
        int n = small(r.nextBoolean() ? 10 : 61);
        int k = small(6) - 1;
        int sounds = small(9);
        int words = 1 + small(r.nextBoolean() ? 4 : 12);
        int what = what(6);
        switch (r.nextInt(8)) {
            case 0: same("talk()", x.talk(), m.talk()); break;
            case 1: same("code(" + sounds + ")", x.code(sounds), m.code(sounds)); break;
            case 2: same("said(" + n + ")", x.said(n), m.said(n)); break;
            case 3: same("richest(" + n + ", " + k + ")", x.richest(n, k), m.richest(n, k)); break;
            case 4: same("endless()", x.endless(), m.endless()); break;
            case 5: same("longest()", x.longest(), m.longest()); break;
            case 6: same("tree()", x.tree(), m.tree()); break;
            default: same("limb(" + words + ", " + what + ")", x.limb(words, what), m.limb(words, what)); break;
        }
    }

    private void askRows() {
        int row = small(4);
        int which = small(4);
        switch (r.nextInt(6)) {
            case 0: same("judge(" + row + ", " + which + ")", x.judge(row, which), m.judge(row, which)); break;
            case 1: same("say(" + row + ")", x.say(row), m.say(row)); break;
            case 2: write(row, small(8), r.nextInt(12)); break;
            case 3: noise(row); break;
            default: same("copy(" + which + ", " + row + ")", x.copy(which, row), m.copy(which, row)); break;
        }
    }

    private void askImages() {
        int i = small(2);
        // of what is empty seldom: it would come back again and again
        if (r.nextInt(3) == 0 && (m.count(4) > 0 || r.nextInt(12) == 0)) {
            same("image(" + i + ")", x.image(i), m.image(i));
        } else if (r.nextInt(3) == 0) {
            same("restore(" + i + ")", x.restore(i), m.restore(i));
        }
    }
}
