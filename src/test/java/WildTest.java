import java.util.Random;

/**
 * Calls by chance, with any arguments in any state: none throws, a refused one changes nothing, and what an object
 * answers after many calls is what a new one answers that was brought to the same tongue and line.
 */
public final class WildTest {
    private static final Bench B = new Bench("wild");
    private static final int[] EDGES = {Integer.MIN_VALUE, -40, -3, -2, -1, 0, 1, 2, 3, 4, 5, 9, 10, 12, 13, 15, 16, 39,
        40, 41, 49, 50, 60, 61, 100, 101, 500, Integer.MAX_VALUE - 9, Integer.MAX_VALUE};
    private static final String SIGNS = "abcdefgh ;0123 \n!";
    private static final String[] NAMES = {"sounds abc", "open a", "like a b", "word ab use 1 kind 0", "never 0 1",
        "last 2", "shape os", "word a use 3 kind 1", "word b", "use", "kind"};

    private static Random r;
    private static String tongue;
    private static String line;
    private static final String[] imagedTongues = new String[2];
    private static final String[] imagedLines = new String[2];

    public static void main(String[] args) {
        int objects = args.length > 0 ? Integer.parseInt(args[0]) : 150;
        r = new Random(args.length > 1 ? Long.parseLong(args[1]) : 7);
        for (int i = 0; i < objects; i++) {
            B.anew();
            tongue = "";
            line = "";
            imagedTongues[0] = null;
            imagedTongues[1] = null;
            for (int call = 0; call < 120; call++) {
                step();
            }
            likeNew();
        }
        B.end();
    }

    private static int any() {
        return r.nextInt(3) == 0 ? EDGES[r.nextInt(EDGES.length)] : r.nextInt(5);
    }

    private static String anyText() {
        if (r.nextInt(3) != 0) {
            String text = Oracle.byChance(r).text();
            return text.length() > 500 ? "" : text;
        }
        StringBuilder b = new StringBuilder();
        int parts = r.nextInt(12);
        for (int i = 0; i < parts; i++) {
            b.append(NAMES[r.nextInt(NAMES.length)]);
            b.append(r.nextInt(5) == 0 ? SIGNS.charAt(r.nextInt(SIGNS.length())) : ';');
        }
        return b.toString();
    }

    private static String anySounds(int most) {
        StringBuilder b = new StringBuilder();
        int n = r.nextInt(most + 1);
        int sounds = Math.max(1, B.x.count(1)) + (r.nextInt(8) == 0 ? 1 : 0);
        for (int i = 0; i < n; i++) {
            int letter = B.x.sound(r.nextInt(sounds), 0);
            b.append(letter < 0 ? 'q' : (char) letter);
        }
        return b.toString();
    }

    private static void step() {
        switch (r.nextInt(12)) {
            case 0:
                emptyTape();
                String text = anyText();
                if (B.tongue(text) >= 0) {
                    tongue = text;
                    line = "";
                }
                break;
            case 1:
            case 2:
                emptyTape();
                String sounds = anySounds(20);
                if (B.line(sounds) >= 0) {
                    line = sounds;
                }
                break;
            case 3:
                image(r.nextInt(2));
                break;
            case 4:
                restore(r.nextInt(2));
                break;
            case 5:
                say();
                break;
            default:
                wild(r.nextInt(46));
                break;
        }
        B.due("sounds of the line", B.x.count(4), line.length());
    }

    private static void emptyTape() {
        B.x.spelt(0);
    }

    private static void image(int i) {
        B.x.image(i);
        imagedTongues[i] = tongue;
        imagedLines[i] = line;
    }

    private static void restore(int i) {
        if (imagedTongues[i] == null) {
            B.due("restore", B.x.restore(i), -5);
        } else {
            B.due("restore", B.x.restore(i), 0);
            tongue = imagedTongues[i];
            line = imagedLines[i];
        }
    }

    private static void say() {
        long[] row = new long[1 + r.nextInt(4)];
        for (int i = 0; i < row.length; i++) {
            row[i] = r.nextInt(4);
        }
        B.row(1, row);
        if (B.x.say(1) >= 0) {
            StringBuilder b = new StringBuilder();
            for (int i = 0; B.x.at(i) >= 0; i++) {
                b.append((char) B.x.sound(B.x.at(i), 0));
            }
            line = b.toString();
        }
    }

    /** One call with any arguments; if it is refused, nothing but the tape may have changed. */
    private static void wild(int which) {
        long before = digest();
        int tape = B.x.count(5);
        long answer = call(which);
        // what a row holds may be any number
        boolean refused = answer <= -2 && which != 41;
        boolean reads = which == 1 || which == 8 || which == 14 || which == 24 || which == 29;
        if (refused) {
            B.due("digest after call " + which + " answered " + answer, digest(), before);
            if (!reads || answer == -3 || answer == -2) {
                B.due("tape after call " + which, B.x.count(5), tape);
            }
        }
    }

    private static long call(int which) {
        int a = any();
        int b = any();
        int c = any();
        switch (which) {
            case 0: return B.x.feed(r.nextInt(), r.nextInt(), 0, 0x61626162, r.nextInt());
            case 1: return B.x.tongue(Math.min(-1, a));
            case 2: return B.x.fault(a) * 0;
            case 3: return B.x.sound(a, b);
            case 4: return B.x.word(a, b);
            case 5: return B.x.shape(a, b);
            case 6: return B.x.behind(a);
            case 7: return B.x.ends(a);
            case 8: return B.x.spelt(a);
            case 9: return B.x.unlike(a, b);
            case 10: return B.x.near(a);
            case 11: return B.x.judge(a, b);
            case 12: return B.x.say(Math.min(-1, a));
            case 13: return B.x.at(a);
            case 14: return B.x.line(a < 0 ? a : 41);
            case 15: return B.x.cuts(a);
            case 16: return B.x.cut(a, b);
            case 17: return B.x.mistakes();
            case 18: return B.x.bound(a);
            case 19: return B.x.unsure(a);
            case 20: return B.x.unsureAt(a);
            case 21: return B.x.bears();
            case 22: return B.x.added(a, b);
            case 23: return B.x.mended(a);
            case 24: return B.x.adds(a, b, c);
            case 25: return B.x.changed(a);
            case 26: return B.x.paused(a);
            case 27: return B.x.begun(a);
            case 28: return B.x.talk();
            case 29: return B.x.fitted(a, b);
            case 30: return B.x.code(a);
            case 31: return B.x.said(a);
            case 32: return B.x.richest(a, b);
            case 33: return B.x.endless();
            case 34: return B.x.longest();
            case 35: return B.x.noise(a, r.nextInt(), b, c);
            case 36: return B.x.asked(a, r.nextInt(), b);
            case 37: return B.x.tree();
            case 38: return B.x.limb(a, b);
            case 39: return B.x.numbers(a, b, c);
            case 40: return B.x.copy(a, b);
            case 41: return B.x.write(a, b, r.nextInt(3) == 0 ? r.nextLong() : r.nextInt(12));
            case 42: return B.x.image(a < 0 ? a : 2);
            case 43: return B.x.restore(a < 0 ? a : 2);
            case 44: return B.x.count(a) < 0 ? 0 : 0;
            default: return 0;
        }
    }

    /** All that can be seen of the state but for the tape. */
    private static long digest() {
        long d = 0;
        for (int i = 0; i < 5; i++) {
            d = d * 31 + B.x.count(i);
        }
        for (int i = 0; i < 4; i++) {
            d = d * 31 + B.x.behind(i);
            d = d * 31 + B.x.ends(i);
            for (int what = 0; what < 4; what++) {
                d = d * 31 + B.x.judge(i, what);
            }
        }
        for (int i = 0; i < 12; i++) {
            for (int what = -1; what < 16; what++) {
                d = d * 31 + B.x.word(i, what);
                d = d * 31 + B.x.sound(i, what);
                d = d * 31 + B.x.shape(i, what);
            }
        }
        for (int i = 0; i < 40; i++) {
            d = d * 31 + B.x.at(i);
        }
        d = d * 31 + B.x.fault(0);
        return d * 31 + B.x.fault(1);
    }

    private static void likeNew() {
        Bench other = new Bench("new");
        B.due("lines of " + tongue, B.x.count(0), other.tongue(tongue));
        B.due("line of " + tongue, line.length(), other.line(line));
        B.due("as a new one at " + tongue + " line " + line, answers(B.x), answers(other.x));
    }

    private static long answers(OneBreath x) {
        long d = 0;
        for (int what = 0; what < 3; what++) {
            d = d * 31 + x.changed(what);
            d = d * 31 + x.mended(what);
            d = d * 31 + x.paused(what);
            d = d * 31 + x.unsure(what);
            d = d * 31 + x.cuts(what);
            for (int kind = 0; kind < 4; kind++) {
                d = d * 31 + x.added(kind, what);
                d = d * 31 + x.added(kind, 10 + what);
            }
        }
        for (int i = -1; i < 40; i++) {
            d = d * 31 + x.unsureAt(i);
            d = d * 31 + x.bound(i);
            d = d * 31 + x.at(i);
            d = d * 31 + x.said(i);
            for (int which = 0; which < 4; which++) {
                d = d * 31 + x.cut(which, i);
            }
            d = d * 31 + x.richest(i, 2);
            d = d * 31 + x.limb(2, i);
        }
        d = d * 31 + x.mistakes();
        d = d * 31 + x.bears();
        d = d * 31 + x.longest();
        d = d * 31 + x.endless();
        return d * 31 + x.tree();
    }
}
