/** Edges of promises 41 to 46: ROWS OF NUMBERS, IMAGES, counts; and of the codes of refused calls. */
final class RowEdges extends Edges {
    private static final int MIN = Integer.MIN_VALUE;
    private static final int MAX = Integer.MAX_VALUE;
    private static final int MOST = 40;
    /** The greatest number of each sort. */
    private static final long[] GREATEST = {127, 32767, 2147483647L, Long.MAX_VALUE};

    RowEdges(Quotes quotes) {
        super(quotes);
    }

    @Override
    void all() {
        missing();
        numbersHeld();
        numbersRenewed();
        numbersRefused();
        write();
        writeRefused();
        copy();
        copyAsCut();
        copyRefused();
        copyInOrder();
        image();
        imageStays();
        restore();
        restoreRefused();
        count();
        codes();
        codesOfTape();
        refusedChangeNothing();
        toldFirst();
    }

    /** WORDS of one SOUND and USE 1, all of KIND 0. */
    private void letters(String sounds) {
        StringBuilder text = new StringBuilder("sounds " + sounds + ";");
        for (char letter : sounds.toCharArray()) {
            text.append("word ").append(letter).append(" use 1 kind 0;");
        }
        b.tongue(text.toString());
    }

    private void missing() {
        edge(41, "ROWS OF NUMBERS 0 to 3 are MISSING at first");
        letters("ab");
        b.line("ab");
        for (int row = 0; row < 4; row++) {
            due(-6, x.judge(row, 0));
            due(-6, x.say(row));
            due(-6, x.noise(row, 1, 0, 0));
            due(-6, x.asked(row, 1, 0));
            due(-6, x.write(row, 0, 0));
            due(-6, x.copy(0, row));
        }
        // one that is there leaves the others MISSING
        x.numbers(2, 0, 1);
        due(-6, x.judge(1, 0));
        due(-1, x.judge(2, 0));
        due(-6, x.judge(3, 0));
    }

    private void numbersHeld() {
        edge(41, "or have 0 to 40 numbers of 8 bits (sort 0), 16 (1), 32 (2), 64 (3)");
        for (int sort = 0; sort < 4; sort++) {
            for (int n : new int[] {0, 1, 39, MOST}) {
                due(0, x.numbers(sort, sort, n));
                due(-7, x.write(sort, n, 1));
                for (int i = 0; i < n; i++) {
                    due(GREATEST[sort], x.write(sort, i, GREATEST[sort]));
                }
            }
        }
        edge(41, "A ROW OF NUMBERS has n numbers of a sort");
        // each ROW may have any sort, by itself
        for (int row = 0; row < 4; row++) {
            due(0, x.numbers(row, 3 - row, row + 1));
        }
        for (int row = 0; row < 4; row++) {
            long most = GREATEST[3 - row];
            due(most, x.write(row, row, most));
            due(-most - 1, x.write(row, row, most + 1));
            due(-7, x.write(row, row + 1, 0));
        }
        edge(41, "all 0");
        b.tongue("sounds ab;word a use 3 kind 0;");
        for (int sort = 0; sort < 4; sort++) {
            x.numbers(1, sort, MOST);
            due(-1, x.judge(1, 0));
            due(MOST, x.judge(1, 2));
        }
    }

    private void numbersRenewed() {
        edge(41, "(in place of another one): 0");
        b.tongue("sounds ab;word a use 3 kind 0;");
        x.numbers(0, 3, MOST);
        for (int i = 0; i < MOST; i++) {
            x.write(0, i, -1);
        }
        due(0, x.judge(0, 0));
        // fewer, then as many again: nothing old comes back
        due(0, x.numbers(0, 0, 2));
        due(-1, x.judge(0, 0));
        due(2, x.judge(0, 2));
        due(-7, x.write(0, 2, 0));
        due(-1, x.write(0, 0, 255));
        due(0, x.numbers(0, 3, MOST));
        due(-1, x.judge(0, 0));
        due(MOST, x.judge(0, 2));
        due(255, x.write(0, 0, 255));
        // of the same sort and number
        due(0, x.numbers(0, 3, MOST));
        due(-1, x.judge(0, 0));
        // none is not MISSING
        due(0, x.numbers(0, 3, 0));
        due(-1, x.judge(0, 0));
        due(0, x.judge(0, 1));
        due(-7, x.write(0, 0, 0));
        // the other ROWS stay
        x.numbers(1, 0, 1);
        x.write(1, 0, 7);
        x.numbers(2, 0, 1);
        due(0, x.judge(1, 0));
    }

    private void numbersRefused() {
        edge(41, "-2: no such ROW, sort");
        for (int row : new int[] {MIN, -1, 4, 5, MAX}) {
            refused(-2, y -> y.numbers(row, 0, 1));
        }
        for (int sort : new int[] {MIN, -1, 4, 5, MAX}) {
            refused(-2, y -> y.numbers(0, sort, 1));
            refused(-2, y -> y.numbers(3, sort, 1));
        }
        edge(41, "-3, and the ROW stays: n is below 0 or above 40");
        for (int n : new int[] {MIN, -1, 41, 42, MAX}) {
            for (int row = 0; row < 4; row++) {
                int asked = row;
                refused(-3, y -> y.numbers(asked, 0, n));
            }
        }
        due(-3, x.numbers(0, 0, 41));
        due(-6, x.judge(0, 0));
        due(0, x.numbers(0, 0, MOST));
        due(5, x.write(0, 39, 5));
        due(-3, x.numbers(0, 3, -1));
        due(-128, x.write(0, 39, 128));
        due(-7, x.write(0, MOST, 0));
    }

    /** What is written, and as what it is there. */
    private void dueWritten(int sort, long... writtenAndThere) {
        x.numbers(0, sort, 3);
        for (int i = 0; i < writtenAndThere.length; i += 2) {
            due(writtenAndThere[i + 1], x.write(0, 1, writtenAndThere[i]));
        }
    }

    private void write() {
        edge(42, "Number i of a ROW OF NUMBERS is v");
        letters("abcd");
        x.numbers(3, 2, MOST);
        due(3, x.write(3, 0, 3));
        due(1, x.write(3, 39, 1));
        due(2, x.write(3, 20, 2));
        due(2, x.write(3, 20, 2));
        due(-1, x.judge(3, 0));
        due(MOST, x.say(3));
        for (int i = 0; i < MOST; i++) {
            due(i == 0 ? 3 : i == 39 ? 1 : i == 20 ? 2 : 0, x.at(i));
        }
        // THE LINE stays as it was said
        due(1, x.write(3, 0, 1));
        due(3, x.at(0));
        edge(42, "cut to its sort: as it is there");
        dueWritten(0, 127, 127, 128, -128, 255, -1, 256, 0, 257, 1, -128, -128, -129, 127, Long.MAX_VALUE, -1,
                Long.MIN_VALUE, 0);
        dueWritten(1, 32767, 32767, 32768, -32768, 65535, -1, 65536, 0, 65537, 1, -32768, -32768, -32769, 32767,
                Long.MAX_VALUE, -1, Long.MIN_VALUE, 0);
        dueWritten(2, 2147483647L, 2147483647L, 2147483648L, -2147483648L, 4294967295L, -1, 4294967296L, 0,
                -2147483648L, -2147483648L, -2147483649L, 2147483647L, Long.MAX_VALUE, -1, Long.MIN_VALUE, 0);
        dueWritten(3, 4294967296L, 4294967296L, Long.MAX_VALUE, Long.MAX_VALUE, Long.MIN_VALUE, Long.MIN_VALUE, -1, -1);
        // what was cut off is not there: 256 is WORD 0 as 8 bits, and none as 16
        b.tongue("sounds ab;word a use 3 kind 0;");
        dueWritten(0, 256, 0);
        due(-1, x.judge(0, 0));
        dueWritten(1, 256, 256);
        due(1, x.judge(0, 0));
        dueWritten(1, 65536, 0);
        due(-1, x.judge(0, 0));
        dueWritten(2, 1L << 32, 0);
        due(-1, x.judge(0, 0));
        dueWritten(3, 1L << 32, 1L << 32);
        due(1, x.judge(0, 0));
    }

    private void writeRefused() {
        edge(42, "-2: no such ROW");
        for (int row : new int[] {MIN, -1, 4, MAX}) {
            refused(-2, y -> y.write(row, 0, 1));
            refused(-2, y -> y.write(row, -1, 1));
        }
        edge(42, "-6");
        for (int i : new int[] {-1, 0, 40, MAX}) {
            refused(-6, y -> y.write(3, i, 1));
        }
        edge(42, "-7");
        for (int i : new int[] {MIN, -1, 2, 3, 40, MAX}) {
            refused(-7, y -> y.write(0, i, 1));
        }
        refused(-7, y -> y.write(2, 0, 1));
        x.numbers(0, 0, MOST);
        due(-7, x.write(0, MOST, 1));
        due(-7, x.write(0, -1, 1));
        due(1, x.write(0, 39, 1));
    }

    private void copy() {
        edge(43, "WORDS of a CUT of THE LINE");
        letters("abcd");
        b.line("dab");
        x.numbers(0, 0, 3);
        due(3, x.copy(0, 0));
        b.line("");
        due(3, x.say(0));
        due(3, x.at(0));
        due(0, x.at(1));
        due(1, x.at(2));
        // as many as THE LINE can have
        b.line("abcd".repeat(10));
        x.numbers(0, 0, MOST);
        due(MOST, x.copy(2, 0));
        b.line("");
        due(MOST, x.say(0));
        due(3, x.at(39));
        edge(43, "come into a ROW OF NUMBERS from its first place on: how many");
        letters("abcd");
        b.line("dc");
        x.numbers(1, 3, 5);
        for (int i = 0; i < 5; i++) {
            x.write(1, i, 1);
        }
        due(2, x.copy(0, 1));
        // what stands behind them stays
        due(5, x.say(1));
        int[] sounds = {3, 2, 1, 1, 1};
        for (int i = 0; i < 5; i++) {
            due(sounds[i], x.at(i));
        }
        // also a number that is no WORD; and THE LINE stays
        b.line("a");
        x.write(1, 1, -7);
        due(1, x.copy(0, 1));
        due(1, x.judge(1, 0));
        due(1, x.judge(1, 2));
        due(1, x.count(4));
        // into each sort
        b.line("da");
        for (int sort = 0; sort < 4; sort++) {
            x.numbers(sort, sort, 2);
            due(2, x.copy(3, sort));
            due(-1, x.judge(sort, 0));
        }
    }

    /** WORDS that a CUT has, as copied, are those that cut() has. */
    private void dueCopied(int which, int... words) {
        x.numbers(0, 0, MOST);
        due(words.length, x.copy(which, 0));
        due(words.length, x.cut(which, -1));
        x.image(0);
        long[] row = new long[words.length];
        for (int k = 0; k < words.length; k++) {
            due(words[k], x.cut(which, k));
            row[k] = words[k];
        }
        // by the SOUNDS that they are said as, if no others stand behind
        b.row(1, row);
        due(x.judge(1, 3), copiedUses(words.length));
        x.restore(0);
    }

    /** USES of the first WORDS of ROW 0 alone: the next is made none. */
    private long copiedUses(int words) {
        x.write(0, words, -1);
        due(words, x.judge(0, 0));
        return x.judge(0, 3);
    }

    private void copyAsCut() {
        edge(43, "(as cut() has it)");
        b.tongue("sounds abc;like b c;word a use 1 kind 0;word b use 2 kind 0;word ba use 30 kind 0;word ab use 50 kind 0;");
        b.line("aba");
        dueCopied(0, 0, 1, 0);
        dueCopied(1, 0, 2);
        dueCopied(2, 3, 0);
        dueCopied(3, 3, 0);
        b.line("aca");
        dueCopied(3, 3, 0);
        due(-5, x.copy(0, 0));
        due(-5, x.copy(1, 0));
        due(-5, x.copy(2, 0));
        b.line("a");
        dueCopied(0, 0);
        due(-5, x.copy(1, 0));
    }

    private void copyRefused() {
        edge(43, "-2: which, the ROW");
        for (int number : new int[] {MIN, -1, 4, MAX}) {
            refused(-2, y -> y.copy(number, 0));
            refused(-2, y -> y.copy(0, number));
        }
        edge(43, "-5: no such CUT");
        for (int which = 0; which < 4; which++) {
            int asked = which;
            refused(-5, told -> told.line("acb"), y -> y.copy(asked, 0));
            refused(-5, told -> told.line(""), y -> y.copy(asked, 1));
            due(-5, x.copy(which, 0));
        }
        refused(-5, told -> told.line("cca"), y -> y.copy(1, 0));
        edge(43, "-6");
        for (int which = 0; which < 4; which++) {
            int asked = which;
            refused(-6, y -> y.copy(asked, 3));
        }
        edge(43, "-7: it has not so many places (nothing comes)");
        for (int which = 0; which < 4; which++) {
            int asked = which;
            refused(-7, y -> y.copy(asked, 2));
            refused(-7, told -> told.row(0, 3), y -> y.copy(asked, 0));
        }
        letters("abcd");
        b.line("ddd");
        b.row(0, 1, 1);
        due(-7, x.copy(0, 0));
        due(2, x.say(0));
        due(1, x.at(0));
        due(1, x.at(1));
        b.line("ddd");
        x.numbers(0, 0, 3);
        due(3, x.copy(0, 0));
    }

    private void copyInOrder() {
        edge(43, "-2: which, the ROW; -5: no such CUT; -6; -7");
        refused(-2, told -> told.line(""), y -> y.copy(4, 3));
        refused(-2, told -> told.line(""), y -> y.copy(0, 4));
        refused(-5, told -> told.line(""), y -> y.copy(0, 3));
        refused(-5, told -> told.line(""), y -> y.copy(0, 2));
        refused(-6, y -> y.copy(0, 3));
    }

    private void image() {
        edge(44, "An IMAGE is made: 0");
        due(0, x.image(0));
        due(0, x.image(1));
        due(0, x.image(1));
        edge(44, "IMAGES 0 to 1: THE TONGUE and THE LINE, as they were (none at first)");
        due(-5, x.restore(0));
        due(-5, x.restore(1));
        // one of no TONGUE and an empty LINE; one of a full one
        x.image(0);
        b.tongue("sounds abcdefgh;open ah;like a h;word abcdef use 99 kind 3;never 3 1;last 0;shape ososos;");
        b.line("h".repeat(40));
        x.image(1);
        b.tongue("sounds zy;");
        due(0, x.restore(1));
        due(7, x.count(0));
        due(8, x.count(1));
        due(1, x.count(2));
        due(1, x.count(3));
        due(40, x.count(4));
        due('h', x.sound(7, 0));
        due(1, x.sound(7, 1));
        due(1, x.sound(7, 2));
        due(6, x.word(0, 0));
        due(99, x.word(0, 1));
        due(3, x.word(0, 2));
        due(5, x.word(0, 15));
        due(13, x.behind(3));
        due(0, x.ends(0));
        due(6, x.shape(0, -1));
        due(1, x.shape(0, 4));
        due(7, x.at(39));
        due(0, x.restore(0));
        for (int what = 0; what <= 4; what++) {
            due(0, x.count(what));
        }
        due(-2, x.sound(0, 0));
        due(15, x.behind(3));
        due(1, x.ends(0));
        due(-1, x.at(0));
        edge(44, "-2");
        for (int i : new int[] {MIN, -1, 2, MAX}) {
            refused(-2, y -> y.image(i));
        }
    }

    private void imageStays() {
        edge(44, "THE TONGUE and THE LINE, as they were");
        letters("abc");
        b.line("ab");
        x.image(0);
        // one made later takes its place, the other one stays
        b.line("c");
        x.image(1);
        b.line("cc");
        x.image(0);
        b.line("");
        due(0, x.restore(1));
        due(1, x.count(4));
        due(2, x.at(0));
        due(0, x.restore(0));
        due(2, x.count(4));
        due(2, x.at(0));
        // what is read behind it does not change it, and it may be taken again and again
        for (int i = 0; i < 3; i++) {
            b.tongue("sounds xy;word x use 1 kind 0;");
            b.line("x");
            due(0, x.restore(1));
            due(3, x.count(2));
            due(1, x.count(4));
            due(2, x.at(0));
        }
        // ROWS, THE TAPE and the FAULT are in none
        x.numbers(0, 0, 1);
        b.tongue("!");
        b.feed("ab");
        x.image(0);
        x.numbers(0, 3, 2);
        x.write(0, 1, 1);
        x.spelt(0);
        b.tongue("last 4;");
        b.feed("a");
        due(0, x.restore(0));
        due(20, x.count(5));
        due(3, x.fault(0));
        due(5, x.fault(1));
        due(2, x.say(0));
    }

    private void restore() {
        edge(45, "All that is in an IMAGE is as it was: 0");
        // what was looked for of another TONGUE is forgotten
        b.tongue("sounds ab;like a b;word a use 1 kind 0;word aa use 5 kind 0;");
        b.line("aa");
        asks(2, 2, 2, -1, 1, 1, 11);
        x.image(0);
        b.tongue("sounds ab;like a b;never 0 0;word a use 1 kind 0;word bb use 1 kind 0;");
        b.line("b");
        asks(0, -1, -1, 2, 0, 0, 3);
        x.image(1);
        due(0, x.restore(0));
        asks(2, 2, 2, -1, 1, 1, 11);
        due(0, x.restore(1));
        asks(0, -1, -1, 2, 0, 0, 3);
        // one CUT asked for ahead and behind
        due(1, x.mistakes());
        due(0, x.restore(0));
        due(0, x.mistakes());
        due(0, x.restore(1));
        due(1, x.mistakes());
        // an IMAGE that is taken is there still
        due(0, x.restore(1));
        due(0, x.restore(0));
        due(0, x.restore(0));
        asks(2, 2, 2, -1, 1, 1, 11);
    }

    /** What of a TONGUE and a LINE may have been looked for ahead. */
    private void asks(int cuts, int unsure, int unsureWithOne, int bears, int mended, int paused, int talk) {
        due(cuts, x.cuts(0));
        due(unsure, x.unsure(0));
        due(unsureWithOne, x.unsure(1));
        due(unsure == -1 ? -1 : 0, x.unsureAt(0));
        due(bears, x.bears());
        due(mended, x.mended(0));
        due(paused, x.paused(0));
        due(talk, x.talk());
        due(cuts == 0 ? -1 : 2, x.cut(0, -1));
        due(cuts == 0 ? 1 : 0, x.mistakes());
        due(cuts == 0 ? 1 : -1, x.added(1, 0) > 0 ? 1 : -1);
        due(0, x.changed(0));
    }

    private void restoreRefused() {
        edge(45, "-2");
        for (int i : new int[] {MIN, -1, 2, MAX}) {
            refused(-2, y -> y.restore(i));
            due(-2, x.restore(i));
        }
        edge(45, "-5: none was made");
        refused(-5, y -> y.restore(1));
        due(-5, x.restore(0));
        x.image(1);
        due(-5, x.restore(0));
        due(0, x.restore(1));
    }

    private void count() {
        edge(46, "0 LINES, 1 SOUNDS, 2 WORDS, 3 SHAPES, 4 SOUNDS of THE LINE, 5 bytes on THE TAPE");
        for (int what = 0; what <= 5; what++) {
            due(0, x.count(what));
        }
        b.tongue("sounds abcdefgh;word a use 1 kind 0;last 0;word b use 1 kind 1;shape o;word c use 1 kind 1;");
        b.line("abca");
        b.feed("a");
        int[] counts = {6, 8, 3, 1, 4, 20};
        for (int what = 0; what <= 5; what++) {
            due(counts[what], x.count(what));
        }
        while (x.count(5) < 500) {
            due(x.count(5) + 20, x.feed(0, 0, 0, 0, 0));
        }
        due(500, x.count(5));
        edge(46, "NONE for others");
        for (int what : new int[] {MIN, -1, 6, 7, MAX}) {
            due(-1, x.count(what));
            due(OneBreath.NONE, x.count(what));
        }
    }

    private void codes() {
        edge(13, "-2 there is none such");
        letters("ab");
        dueAll(new Call[] {y -> y.sound(2, 0), y -> y.word(2, 0), y -> y.shape(0, -1), y -> y.behind(4), y -> y.ends(-1),
            y -> y.unlike(0, 2), y -> y.near(2), y -> y.judge(4, 0), y -> y.say(-1), y -> y.cut(4, 0), y -> y.added(4, 0),
            y -> y.adds(4, 0, 0), y -> y.mended(2), y -> y.changed(3), y -> y.paused(2), y -> y.begun(2),
            y -> y.fitted(0, 2), y -> y.noise(4, 0, 0, 0), y -> y.asked(4, 0, 0), y -> y.limb(1, 2),
            y -> y.numbers(4, 0, 0), y -> y.write(4, 0, 0), y -> y.copy(4, 0), y -> y.image(2), y -> y.restore(2)},
                -2, -2, -2, -2, -2, -2, -2, -2, -2, -2, -2, -2, -2, -2, -2, -2, -2, -2, -2, -2, -2, -2, -2, -2, -2);
        edge(13, "-3 a number can't be");
        letters("ab");
        b.row(0);
        b.row(1, 0);
        dueAll(new Call[] {y -> y.tongue(1), y -> y.spelt(1), y -> y.say(0), y -> y.line(1), y -> y.cuts(3),
            y -> y.cut(0, -2), y -> y.bound(1), y -> y.unsure(3), y -> y.adds(0, 1, 0), y -> y.adds(0, 0, 3),
            y -> y.fitted(1, 0), y -> y.code(1), y -> y.said(61), y -> y.richest(0, 0), y -> y.richest(1, -2),
            y -> y.noise(1, 0, 101, 0), y -> y.asked(1, 0, -1), y -> y.limb(13, 0), y -> y.numbers(0, 0, 41)},
                -3, -3, -3, -3, -3, -3, -3, -3, -3, -3, -3, -3, -3, -3, -3, -3, -3, -3, -3);
        edge(43, "-5 it can't be now");
        letters("ab");
        x.numbers(0, 0, 40);
        dueAll(new Call[] {y -> y.copy(0, 0), y -> y.restore(0)}, -5, -5);
        b.tongue("sounds ab;word ab use 1 kind 0;");
        dueAll(new Call[] {y -> y.say(0)}, -5);
        while (x.count(5) < 500) {
            x.feed(0, 0, 0, 0, 0);
        }
        dueAll(new Call[] {y -> y.feed(0, 0, 0, 0, 0)}, -5);
        // what can't be now can be later
        due(0, x.image(0));
        due(0, x.restore(0));
        due(-1, x.spelt(0));
        due(20, x.feed(0, 0, 0, 0, 0));
        edge(42, "-6 a ROW OF NUMBERS is MISSING");
        letters("ab");
        b.line("a");
        dueAll(new Call[] {y -> y.judge(3, 0), y -> y.say(3), y -> y.noise(3, 0, 0, 0), y -> y.asked(3, 0, 0),
            y -> y.write(3, 0, 0), y -> y.copy(0, 3)}, -6, -6, -6, -6, -6, -6);
        edge(42, "-7 it has no such number");
        letters("ab");
        b.line("a");
        x.numbers(0, 0, 0);
        dueAll(new Call[] {y -> y.write(0, 0, 0), y -> y.copy(0, 0)}, -7, -7);
    }

    private void codesOfTape() {
        edge(15, "-9 no such SOUNDS");
        letters("ab");
        due(-9, b.line("c"));
        due(-9, b.adds(0, "c", 0));
        due(-9, b.fitted("c", 0));
        // a WORD alone is asked for: none is NONE
        due(-1, b.spelt("c"));
        edge(3, "-30 less the FAULT: a text");
        for (int kind = 1; kind <= 4; kind++) {
            due(-30 - kind, b.tongue(new String[] {"0000", "0", "last 7;", "sounds xy;sounds"}[kind - 1]));
            due(kind, x.fault(0));
        }
    }

    private void refusedChangeNothing() {
        edge(3, "Refused calls answer by a code and change nothing");
        // one after another, many times: the answers stay as they are
        b.tongue("sounds ab;like a b;word a use 1 kind 0;word ab use 1 kind 0;");
        b.line("ab");
        b.row(0, 0, 1);
        x.image(0);
        b.feed("ab");
        Call[] calls = {y -> y.tongue(21), y -> y.spelt(-1), y -> y.line(21), y -> y.adds(4, 1, 0), y -> y.adds(0, 1, 3),
            y -> y.fitted(1, 2), y -> y.fitted(21, 0), y -> y.say(1), y -> y.numbers(0, 0, 41), y -> y.numbers(0, 4, 1),
            y -> y.write(0, 2, 1), y -> y.copy(4, 0), y -> y.copy(0, 1), y -> y.image(2), y -> y.restore(1),
            y -> y.noise(0, 1, 101, 0), y -> y.asked(0, 1, 101)};
        for (int round = 0; round < 5; round++) {
            dueAll(calls, -3, -3, -3, -2, -3, -2, -3, -6, -3, -2, -7, -2, -6, -2, -5, -3, -3);
            due(20, x.count(5));
            due(2, x.count(4));
            due(1, x.cuts(0));
            due(-1, x.judge(0, 0));
            due(3, x.judge(0, 2));
            due(4, x.count(0));
        }
    }

    private void toldFirst() {
        edge(13, "(Of several that which the call tells first.)");
        refused(-2, y -> y.judge(3, 4));
        refused(-2, y -> y.cut(4, -2));
        refused(-2, y -> y.adds(4, 21, 3));
        refused(-3, y -> y.adds(0, 21, 3));
        refused(-2, y -> y.fitted(21, 2));
        refused(-3, told -> told.feed("?".repeat(40)), y -> y.line(41));
        refused(-3, told -> told.feed("?".repeat(40)), y -> y.fitted(61, 0));
        refused(-2, y -> y.noise(3, 0, 101, 2));
        refused(-6, y -> y.noise(3, 0, 101, 0));
        refused(-6, y -> y.asked(3, 0, 101));
        refused(-3, y -> y.limb(13, 2));
        refused(-2, y -> y.numbers(0, 4, 41));
        refused(-2, y -> y.numbers(4, 0, 41));
        refused(-6, y -> y.write(3, 40, 0));
        refused(-2, y -> y.copy(0, 4));
        // a code is told ahead of NONE
        due(-2, x.added(4, 0));
        due(-2, x.added(0, 2));
        due(-2, x.mended(2));
        due(-2, x.changed(3));
        due(-2, x.begun(2));
        due(-2, x.limb(1, 2));
        due(-3, x.cut(0, -2));
        due(-3, x.richest(61, 0));
        due(-9, b.fitted("a", 0));
    }
}
