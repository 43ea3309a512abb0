import java.util.ArrayList;
import java.util.List;

/** Tests of single sentences of the document: each names its promise, and has objects of its own. */
abstract class Edges {
    interface Call {
        long on(OneBreath x);
    }

    interface Step {
        void on(Bench b);
    }

    private static final String TAPED = "abcabcabcabcabcabcab";

    private final Quotes quotes;
    private String edge = "";
    private int answers = 0;
    private int wrong = 0;
    protected Bench b;
    protected OneBreath x;

    Edges(Quotes quotes) {
        this.quotes = quotes;
    }

    abstract void all();

    int answers() {
        return answers;
    }

    int wrong() {
        return wrong;
    }

    /** What follows, on a new object, is a test of these words. */
    protected void edge(int promise, String sentence) {
        quotes.note(promise, sentence);
        edge = "promise " + promise + ", '" + sentence + "'";
        anew();
    }

    protected void anew() {
        b = new Bench("edges");
        x = b.x;
    }

    protected void due(long want, long got) {
        answers++;
        if (want != got) {
            wrong++;
            System.out.println(edge + ": answered " + got + ", due is " + want + where());
        }
    }

    private static String where() {
        return StackWalker.getInstance().walk(frames -> frames
                .filter(f -> !f.getClassName().equals("Edges") && f.getClassName().endsWith("Edges"))
                .map(f -> " (" + f.getFileName() + ":" + f.getLineNumber() + ")").findFirst().orElse(""));
    }

    /** Several answers of one call, in their order. */
    protected void dueAll(Call[] calls, long... wants) {
        due(wants.length, calls.length);
        for (int i = 0; i < wants.length && i < calls.length; i++) {
            due(wants[i], calls[i].on(x));
        }
    }

    /** A call that is refused where much is told: by its code, and all stays. */
    protected void refused(long code, Call call) {
        refused(code, told -> { }, call);
    }

    /** So, too, behind some steps more. */
    protected void refused(long code, Step ahead, Call call) {
        Bench called = told(ahead);
        Bench other = told(ahead);
        due(code, call.on(called.x));
        same(look(other), look(called));
    }

    /** A call that reads THE TAPE, and is refused then: THE TAPE is empty, all else stays. */
    protected void refusedAndRead(long code, Step ahead, Call call) {
        Bench called = told(ahead);
        Bench other = told(ahead);
        due(code, call.on(called.x));
        due(0, called.x.count(5));
        other.x.spelt(0);
        same(look(other), look(called));
    }

    /** A TONGUE with a LINE, another one as an IMAGE, a FAULT behind it, three ROWS, bytes on THE TAPE. */
    private static Bench told(Step ahead) {
        Bench b = new Bench("told");
        b.tongue("sounds xyz;open y;word x use 1 kind 0;word xy use 2 kind 1;shape so;never 3 3;");
        b.line("xyx");
        b.x.image(0);
        b.tongue("sounds abc;open a;like b c;never 1 1;last 2;shape os;word a use 5 kind 0;word ab use 3 kind 0;"
                + "word ba use 2 kind 1;word cc use 1 kind 2;");
        b.line("aba");
        b.tongue("last 7;");
        b.row(0, 0, 2);
        b.x.numbers(1, 0, 3);
        b.x.write(1, 1, 3);
        b.x.numbers(2, 1, 0);
        b.feed(TAPED);
        ahead.on(b);
        return b;
    }

    /** All that can be asked of an object; what it holds is gone then. */
    private static List<Long> look(Bench b) {
        List<Long> seen = new ArrayList<>();
        lookAtTongue(b.x, seen);
        lookAtLine(b.x, seen);
        lookAtSure(b.x, seen);
        lookAtTape(b.x, seen);
        for (int row = 0; row < 4; row++) {
            lookAtRow(b.x, row, seen);
        }
        for (int i = 0; i < 2; i++) {
            add(seen, b.x.restore(i));
            lookAtTongue(b.x, seen);
            lookAtLine(b.x, seen);
        }
        return seen;
    }

    private static void add(List<Long> seen, long... answers) {
        for (long answer : answers) {
            seen.add(answer);
        }
    }

    private static void lookAtTongue(OneBreath x, List<Long> seen) {
        add(seen, x.count(0), x.count(1), x.count(2), x.count(3), x.fault(0), x.fault(1));
        for (int s = 0; s < 3; s++) {
            add(seen, x.sound(s, 0), x.sound(s, 1), x.sound(s, 2));
        }
        for (int w = 0; w < 4; w++) {
            add(seen, x.word(w, 0), x.word(w, 1), x.word(w, 2), x.word(w, 10), x.word(w, 11));
        }
        add(seen, x.shape(0, -1), x.shape(0, 0), x.shape(0, 1));
        for (int kind = 0; kind < 4; kind++) {
            add(seen, x.behind(kind), x.ends(kind));
        }
    }

    private static void lookAtLine(OneBreath x, List<Long> seen) {
        int n = x.count(4);
        add(seen, n);
        for (int i = 0; i < n; i++) {
            add(seen, x.at(i));
        }
        add(seen, x.cuts(0), x.cuts(1), x.cuts(2), x.mistakes());
        for (int which = 0; which < 4; which++) {
            add(seen, x.cut(which, -1), x.cut(which, 0), x.cut(which, 1));
        }
    }

    private static void lookAtSure(OneBreath x, List<Long> seen) {
        add(seen, x.unsure(0), x.unsure(1), x.unsure(2), x.unsureAt(0), x.unsureAt(1), x.bears());
        add(seen, x.added(0, 0), x.mended(1), x.changed(0), x.changed(2), x.paused(1), x.talk());
    }

    private static void lookAtTape(OneBreath x, List<Long> seen) {
        int n = Math.min(40, x.count(5));
        add(seen, x.count(5), x.line(n));
        for (int i = 0; i < n; i++) {
            add(seen, x.at(i));
        }
    }

    /** A number with bits in every byte tells of what sort a ROW is. */
    private static void lookAtRow(OneBreath x, int row, List<Long> seen) {
        add(seen, x.judge(row, 0), x.judge(row, 1), x.judge(row, 2), x.judge(row, 3), x.say(row));
        long answer = 0;
        for (int i = 0; i <= 40 && answer != -7 && answer != -6; i++) {
            answer = x.write(row, i, 0x1122334455667788L);
            add(seen, answer);
        }
    }

    private void same(List<Long> wants, List<Long> gots) {
        due(wants.size(), gots.size());
        for (int i = 0; i < wants.size() && i < gots.size(); i++) {
            due(wants.get(i), gots.get(i));
        }
    }
}
