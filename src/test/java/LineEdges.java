/** Edges of promises 13 to 20: SENTENCES, THE LINE, its CUTS. */
final class LineEdges extends Edges {
    private static final int MIN = Integer.MIN_VALUE;
    private static final int MAX = Integer.MAX_VALUE;
    private static final long MODULUS = 1000000007L;
    /** KIND 1 never stands behind KIND 0; KIND 2 can't be last. */
    private static final String STRICT = "sounds abc;never 0 1;last 2;word a use 5 kind 0;word bb use 7 kind 1;"
            + "word ccc use 11 kind 2;";

    LineEdges(Quotes quotes) {
        super(quotes);
    }

    @Override
    void all() {
        sentence();
        judge();
        judgeRefused();
        say();
        line();
        at();
        cutsOfLine();
        cutsWithMistakes();
        cutsCounted();
        order();
        mostUse();
        heard();
        cut();
        mistakes();
        bound();
    }

    private void sentence() {
        edge(13, "A SENTENCE is a row of WORDS, one at least");
        b.tongue(STRICT);
        b.row(0);
        due(0, x.judge(0, 1));
        due(-1, x.judge(0, 0));
        b.row(0, 0);
        due(1, x.judge(0, 1));
        edge(13, "none right behind one behind which it never stands");
        b.tongue(STRICT);
        b.row(0, 0, 1);
        due(0, x.judge(0, 1));
        b.row(0, 1, 0);
        due(1, x.judge(0, 1));
        b.row(0, 0, 2, 1);
        due(1, x.judge(0, 1));
        edge(13, "the last one of a KIND that can be last");
        b.tongue(STRICT);
        b.row(0, 2);
        due(0, x.judge(0, 1));
        due(-1, x.judge(0, 0));
        b.row(0, 2, 0);
        due(1, x.judge(0, 1));
        b.row(0, 0, 2);
        due(0, x.judge(0, 1));
    }

    private void judge() {
        edge(13, "Of a ROW OF NUMBERS, WORDS, what 0: the first place that can't be "
                + "(no WORD; never behind the one ahead), NONE");
        b.tongue(STRICT);
        b.row(3, 3, 0);
        due(0, x.judge(3, 0));
        b.row(3, 0, -1);
        due(1, x.judge(3, 0));
        b.row(3, 0, 0, 1L << 32);
        due(2, x.judge(3, 0));
        b.row(3, 0, Long.MIN_VALUE, 1, 9);
        due(1, x.judge(3, 0));
        b.row(3, 0, 0, 1, 9);
        due(2, x.judge(3, 0));
        b.row(3, 0, 0, 2);
        due(-1, x.judge(3, 0));
        x.numbers(3, 2, 40);
        due(-1, x.judge(3, 0));
        x.write(3, 39, 1);
        due(39, x.judge(3, 0));
        // without WORDS no number is one
        b.tongue("");
        b.row(3, 0);
        due(0, x.judge(3, 0));
        edge(13, "1: 1 if it is a SENTENCE, else 0");
        b.tongue(STRICT);
        b.row(0, 1, 1, 0);
        due(1, x.judge(0, 1));
        b.row(0, 1, 1, 3);
        due(0, x.judge(0, 1));
        // one too long to be said may be one
        x.numbers(0, 0, 40);
        for (int i = 0; i < 40; i++) {
            x.write(0, i, 1);
        }
        due(1, x.judge(0, 1));
        edge(13, "of its WORDS ahead of that place 2: SOUNDS, 3: USES together");
        b.tongue(STRICT);
        b.row(0);
        due(0, x.judge(0, 2));
        due(0, x.judge(0, 3));
        b.row(0, 2, 1, 0, 1, 0);
        due(6, x.judge(0, 2));
        due(23, x.judge(0, 3));
        b.row(0, 7, 1);
        due(0, x.judge(0, 2));
        due(0, x.judge(0, 3));
        // all of them, if none is wrong, also if it is no SENTENCE
        b.row(0, 1, 2);
        due(5, x.judge(0, 2));
        due(18, x.judge(0, 3));
        b.tongue("sounds ab;word ababab use 99 kind 0;");
        x.numbers(0, 0, 40);
        due(240, x.judge(0, 2));
        due(3960, x.judge(0, 3));
    }

    private void judgeRefused() {
        edge(13, "-2: the ROW, what");
        for (int row : new int[] {MIN, -1, 4, MAX}) {
            refused(-2, y -> y.judge(row, 0));
        }
        for (int what : new int[] {MIN, -1, 4, MAX}) {
            refused(-2, y -> y.judge(0, what));
            // ahead of -6
            refused(-2, y -> y.judge(3, what));
        }
        edge(13, "-6");
        for (int what = 0; what <= 3; what++) {
            int asked = what;
            refused(-6, y -> y.judge(3, asked));
            due(-6, x.judge(what, what));
        }
    }

    private void say() {
        edge(14, "THE LINE is what a ROW OF NUMBERS, a SENTENCE, is said as: how many SOUNDS");
        b.tongue(STRICT);
        b.line("abc");
        b.row(2, 1, 0);
        due(3, x.say(2));
        due(3, x.count(4));
        due(1, x.at(0));
        due(1, x.at(1));
        due(0, x.at(2));
        due(-1, x.at(3));
        due(1, x.cuts(0));
        // what was asked of the line ahead is not of this one
        due(2, x.cut(0, -1));
        b.row(2, 0);
        due(1, x.say(2));
        due(1, x.cut(0, -1));
        due(0, x.cut(0, 0));
        due(0, x.mistakes());
        edge(14, "It is said as its SOUNDS without a stop");
        b.tongue("sounds ab;word ab use 1 kind 0;word a use 1 kind 0;word ba use 1 kind 0;");
        b.row(0, 0, 1);
        due(3, x.say(0));
        due(2, x.cuts(0));
        due(2, x.cut(1, -1));
        edge(14, "-2");
        for (int row : new int[] {MIN, -1, 4, MAX}) {
            refused(-2, y -> y.say(row));
        }
        edge(14, "-6");
        refused(-6, y -> y.say(3));
        due(-6, x.say(0));
        edge(14, "-3: it is no SENTENCE");
        // an empty one; one that can't be last; no WORD; never behind
        refused(-3, y -> y.say(2));
        refused(-3, told -> told.row(2, 3), y -> y.say(2));
        refused(-3, told -> told.row(2, 0, 4), y -> y.say(2));
        refused(-3, told -> told.row(2, 2, 2), y -> y.say(2));
        // ahead of -5
        refused(-3, LineEdges::tooLongAndWrong, y -> y.say(2));
        edge(14, "-5: more than 40 SOUNDS");
        refused(-5, told -> {
            told.x.numbers(2, 0, 21);
            for (int i = 0; i < 21; i++) {
                told.x.write(2, i, 1);
            }
        }, y -> y.say(2));
        b.tongue("sounds ab;word a use 1 kind 0;word ababab use 1 kind 0;");
        b.row(0, 1, 1, 1, 1, 1, 1, 0, 0, 0, 0);
        due(40, x.say(0));
        due(40, x.count(4));
        b.row(0, 1, 1, 1, 1, 1, 1, 0, 0, 0, 0, 0);
        due(-5, x.say(0));
        due(40, x.count(4));
        x.numbers(0, 0, 40);
        due(40, x.say(0));
    }

    private static void tooLongAndWrong(Bench told) {
        told.x.numbers(2, 0, 40);
        for (int i = 0; i < 39; i++) {
            told.x.write(2, i, 1);
        }
        told.x.write(2, 39, 3);
    }

    private void line() {
        edge(15, "THE LINE is what the first n bytes of THE TAPE (which is empty then) spell: n");
        b.tongue("sounds abc;");
        b.feed("cabxx");
        due(3, x.line(3));
        due(0, x.count(5));
        due(3, x.count(4));
        due(2, x.at(0));
        due(0, x.at(1));
        due(1, x.at(2));
        b.feed("cab");
        due(0, x.line(0));
        due(0, x.count(5));
        due(0, x.count(4));
        b.tongue(STRICT);
        b.line("bba");
        due(2, x.cut(0, -1));
        b.line("a");
        due(1, x.cut(0, -1));
        b.line("ab");
        due(-1, x.cut(0, -1));
        due(-1, x.mistakes());
        b.line("bb");
        due(0, x.mistakes());
        edge(15, "THE LINE has up to 40 SOUNDS (none at first)");
        due(0, x.count(4));
        b.tongue("sounds abc;");
        due(0, x.count(4));
        due(40, b.line("abca".repeat(10)));
        due(0, x.at(39));
        due(-3, b.line("a".repeat(41)));
        due(40, x.count(4));
        edge(15, "-3: n is below 0, above 40, or above what there is (THE TAPE stays)");
        for (int n : new int[] {MIN, -1, 21, 41, 500, MAX}) {
            refused(-3, y -> y.line(n));
        }
        refused(-3, told -> told.feed("abc".repeat(10)), y -> y.line(41));
        due(-3, x.line(1));
        edge(15, "-9: not all are SOUNDS");
        for (String wrong : new String[] {"xabc", "abcx", "ab c", "abC", "ab;"}) {
            refusedAndRead(-9, told -> {
                told.x.spelt(0);
                told.feed(wrong);
            }, y -> y.line(4));
        }
        due(-9, b.line("a"));
    }

    private void at() {
        edge(16, "SOUND i of THE LINE");
        b.tongue("sounds abcdefgh;");
        b.line("hgfedcba");
        for (int i = 0; i < 8; i++) {
            due(7 - i, x.at(i));
        }
        edge(16, "NONE: not so many");
        due(-1, x.at(0));
        b.tongue("sounds ab;");
        b.line("ab");
        for (int i : new int[] {MIN, -1, 2, 3, 40, MAX}) {
            due(-1, x.at(i));
        }
        b.line("a".repeat(40));
        b.line("b");
        due(1, x.at(0));
        due(-1, x.at(1));
    }

    private void cutsOfLine() {
        edge(17, "A CUT of it is a SENTENCE that is said so");
        b.tongue(STRICT);
        b.line("");
        due(0, x.cuts(0));
        b.line("abb");
        due(0, x.cuts(0));
        b.line("bba");
        due(1, x.cuts(0));
        b.line("acccbb");
        due(1, x.cuts(0));
        b.line("accc");
        due(0, x.cuts(0));
        b.line("ab");
        due(0, x.cuts(0));
        edge(17, "How many CUTS with m MISTAKES (0 to 2) THE LINE has");
        b.tongue("sounds ab;like a b;word a use 1 kind 0;");
        int[][] due = {{0, 0, 1}, {0, 1, 1}, {1, 1, 1}, {0, 0, 0}};
        String[] lines = {"bab", "aba", "aaa", "bbb"};
        for (int i = 0; i < lines.length; i++) {
            b.line(lines[i]);
            for (int m = 0; m <= 2; m++) {
                due(due[i][m], x.cuts(m));
            }
        }
    }

    private void cutsWithMistakes() {
        edge(17, "With m MISTAKES: a SENTENCE of as many SOUNDS that are those of THE LINE but for m at most, "
                + "which are like");
        // of as many: no SOUND is put in or left out
        b.tongue("sounds abc;like a b;word aaa use 1 kind 0;word ab use 1 kind 0;");
        b.line("aa");
        due(0, x.cuts(0));
        due(1, x.cuts(1));
        due(1, x.cuts(2));
        b.line("aaaa");
        due(0, x.cuts(0));
        due(0, x.cuts(1));
        due(1, x.cuts(2));
        // m at most, not each WORD
        b.line("aaaaaa");
        due(1, x.cuts(0));
        due(1, x.cuts(1));
        due(1, x.cuts(2));
        // which are like: c is none
        b.line("cb");
        due(0, x.cuts(2));
        b.line("aca");
        due(0, x.cuts(2));
        // like ones of like ones are not
        b.tongue("sounds abc;like a b;like b c;word a use 1 kind 0;");
        b.line("c");
        due(0, x.cuts(2));
        b.line("b");
        due(1, x.cuts(1));
    }

    private void cutsCounted() {
        edge(17, "modulo 1,000,000,007");
        b.tongue("sounds ab;like a b;word a use 1 kind 0;word aa use 1 kind 0;word aaa use 1 kind 0;");
        b.line("a".repeat(40));
        long[] ways = new long[41];
        ways[0] = 1;
        for (int i = 1; i <= 40; i++) {
            for (int k = 1; k <= 3 && k <= i; k++) {
                ways[i] += ways[i - k];
            }
        }
        due(1, ways[40] > MODULUS ? 1 : 0);
        for (int m = 0; m <= 2; m++) {
            due(ways[40] % MODULUS, x.cuts(m));
        }
        edge(17, "-3");
        for (int m : new int[] {MIN, -1, 3, MAX}) {
            refused(-3, y -> y.cuts(m));
        }
    }

    private void dueCut(int which, int... words) {
        due(words.length == 0 ? -1 : words.length, x.cut(which, -1));
        for (int k = 0; k < words.length; k++) {
            due(words[k], x.cut(which, k));
        }
        due(-1, x.cut(which, words.length));
    }

    private void order() {
        edge(18, "CUTS stand in order by the first WORD in which they differ, the lesser number ahead");
        // ab.ab, ab.a.b, a.b.ab, a.b.a.b, a.bab by their numbers: 0 0, 0 2 1, 2 1 0, 2 1 2 1, 2 3
        b.tongue("sounds ab;word ab use 1 kind 0;word b use 1 kind 0;word a use 1 kind 0;word bab use 1 kind 0;");
        b.line("abab");
        due(5, x.cuts(0));
        dueCut(0, 0, 0);
        dueCut(1, 0, 2, 1);
        // the WORDS' numbers, not their SOUNDS or lengths, tell the order
        b.tongue("sounds ab;word bab use 1 kind 0;word b use 1 kind 0;word a use 1 kind 0;word ab use 1 kind 0;");
        b.line("abab");
        dueCut(0, 2, 0);
        dueCut(1, 2, 1, 2, 1);
        // bc never stands behind a, though it may stand behind b
        b.tongue("sounds abc;never 0 1;word a use 1 kind 0;word b use 1 kind 2;word bc use 1 kind 1;"
                + "word c use 1 kind 0;");
        b.line("abc");
        dueCut(0, 0, 1, 3);
        dueCut(1);
        b.line("bbc");
        dueCut(0, 1, 1, 3);
        dueCut(1, 1, 2);
        // the second may differ from the first in its first WORD alone
        b.tongue("sounds ab;word a use 1 kind 0;word ab use 1 kind 0;word ba use 1 kind 0;");
        b.line("aba");
        dueCut(0, 0, 2);
        dueCut(1, 1, 0);
    }

    private void mostUse() {
        edge(18, "MOST USE: of CUTS that with the greatest sum of USES, of like ones the first");
        b.tongue("sounds ab;word a use 1 kind 0;word b use 2 kind 0;word ab use 4 kind 0;");
        b.line("ab");
        dueCut(2, 2);
        b.tongue("sounds ab;word a use 1 kind 0;word b use 2 kind 0;word ab use 3 kind 0;");
        b.line("abab");
        dueCut(2, 0, 1, 0, 1);
        b.tongue("sounds ab;word ab use 3 kind 0;word a use 1 kind 0;word b use 2 kind 0;");
        b.line("abab");
        dueCut(2, 0, 0);
        // all USES 0, and the most that there can be
        b.tongue("sounds ab;word ab use 0 kind 0;word a use 0 kind 0;word b use 0 kind 0;");
        b.line("ab");
        dueCut(2, 0);
        b.tongue("sounds ab;word aa use 99 kind 0;word a use 99 kind 0;");
        b.line("a".repeat(40));
        due(40, x.cut(2, -1));
        due(1, x.cut(2, 0));
        due(1, x.cut(2, 39));
    }

    private void heard() {
        edge(18, "HEARD: of CUTS with any MISTAKES those with the fewest");
        b.tongue("sounds ab;like a b;word ab use 0 kind 0;word ba use 99 kind 0;");
        b.line("ab");
        dueCut(3, 0);
        b.line("aa".repeat(20));
        due(20, x.mistakes());
        b.tongue("sounds ab;like a b;word a use 0 kind 0;");
        b.line("b".repeat(40));
        due(40, x.mistakes());
        due(40, x.cut(3, -1));
        edge(18, "of these that with the greatest sum of USES");
        b.tongue("sounds ab;like a b;word ab use 3 kind 0;word ba use 4 kind 0;word aaa use 99 kind 0;");
        b.line("aa");
        dueCut(3, 1);
        // one MISTAKE weighs more than all USES: 39 SOUNDS with 99 each
        b.tongue("sounds ab;like a b;last 1;word b use 99 kind 1;word aa use 0 kind 0;");
        b.line("b" + "a".repeat(38));
        due(0, x.mistakes());
        due(20, x.cut(3, -1));
        due(1, x.cut(3, 1));
        edge(18, "of like ones the first");
        b.tongue("sounds ab;like a b;word ba use 4 kind 0;word ab use 4 kind 0;");
        b.line("aa");
        dueCut(3, 0);
        b.tongue("sounds ab;like a b;word a use 2 kind 0;word b use 2 kind 0;word ab use 4 kind 0;");
        b.line("ab");
        dueCut(3, 0, 1);
    }

    private void cut() {
        edge(18, "Of a CUT of THE LINE (which 0: the first, 1: the second, 2: of MOST USE, 3: HEARD)");
        b.tongue("sounds abc;like b c;word a use 1 kind 0;word b use 1 kind 0;word ba use 9 kind 0;word ab use 5 kind 0;");
        b.line("aba");
        dueCut(0, 0, 1, 0);
        dueCut(1, 0, 2);
        dueCut(2, 0, 2);
        dueCut(3, 0, 2);
        b.line("aca");
        dueCut(0);
        dueCut(1);
        dueCut(2);
        dueCut(3, 0, 2);
        edge(18, "k NONE: how many WORDS, else its WORD k");
        b.tongue("sounds ab;word a use 1 kind 0;");
        b.line("a".repeat(40));
        due(40, x.cut(0, OneBreath.NONE));
        due(0, x.cut(0, 0));
        due(0, x.cut(0, 39));
        due(-1, x.cut(0, 40));
        edge(18, "NONE: no such CUT, WORD");
        for (int which = 0; which < 4; which++) {
            due(-1, x.cut(which, -1));
            due(-1, x.cut(which, 0));
        }
        b.tongue("sounds ab;word a use 1 kind 0;");
        b.line("ab");
        for (int which = 0; which < 4; which++) {
            due(-1, x.cut(which, -1));
            due(-1, x.cut(which, 0));
        }
        b.line("aa");
        due(-1, x.cut(1, -1));
        due(-1, x.cut(1, 0));
        due(-1, x.cut(0, 2));
        due(-1, x.cut(0, MAX));
        edge(18, "-2: which");
        for (int which : new int[] {MIN, -1, 4, MAX}) {
            refused(-2, y -> y.cut(which, 0));
            // ahead of -3
            refused(-2, y -> y.cut(which, -2));
        }
        edge(18, "-3: k is below NONE");
        for (int which = 0; which < 4; which++) {
            int asked = which;
            refused(-3, y -> y.cut(asked, -2));
            refused(-3, y -> y.cut(asked, MIN));
            // also if there is no such CUT
            due(-3, x.cut(which, -2));
        }
    }

    private void mistakes() {
        edge(19, "MISTAKES of HEARD");
        b.tongue("sounds abc;like a b;word aa use 1 kind 0;word c use 1 kind 0;");
        String[] lines = {"aa", "ab", "bb", "bbc", "bbcab", "c"};
        int[] made = {0, 1, 2, 2, 3, 0};
        for (int i = 0; i < lines.length; i++) {
            b.line(lines[i]);
            due(made[i], x.mistakes());
        }
        edge(19, "NONE: there is none");
        due(-1, x.mistakes());
        b.tongue("sounds abc;like a b;word aa use 1 kind 0;");
        due(-1, x.mistakes());
        b.line("aaa");
        due(-1, x.mistakes());
        b.line("ac");
        due(-1, x.mistakes());
        b.tongue("sounds abc;like a b;last 0;word aa use 1 kind 0;");
        b.line("ab");
        due(-1, x.mistakes());
    }

    private void bound() {
        edge(20, "How many CUTS (no MISTAKES) of THE LINE have a WORD that ends behind its first i SOUNDS (1 up to all)");
        b.tongue("sounds ab;like a b;word a use 1 kind 0;word ab use 1 kind 0;word b use 1 kind 0;word bab use 1 kind 0;");
        b.line("abab");
        // a.b.a.b, a.b.ab, a.bab, ab.a.b, ab.ab
        int[] ends = {3, 4, 2, 5};
        for (int i = 1; i <= 4; i++) {
            due(ends[i - 1], x.bound(i));
        }
        b.line("a");
        due(1, x.bound(1));
        b.tongue("sounds ab;like a b;word ab use 1 kind 0;");
        b.line("aa");
        due(0, x.bound(1));
        due(0, x.bound(2));
        due(1, x.cuts(1));
        edge(20, "modulo 1,000,000,007");
        b.tongue("sounds ab;word a use 1 kind 0;word aa use 1 kind 0;word aaa use 1 kind 0;word aaaa use 1 kind 0;");
        b.line("a".repeat(40));
        long[] ways = new long[41];
        ways[0] = 1;
        for (int i = 1; i <= 40; i++) {
            for (int k = 1; k <= 4 && k <= i; k++) {
                ways[i] += ways[i - k];
            }
        }
        for (int i = 1; i <= 40; i++) {
            due(ways[i] % MODULUS * (ways[40 - i] % MODULUS) % MODULUS, x.bound(i));
        }
        edge(20, "-3");
        for (int i : new int[] {MIN, -1, 0, 4, 40, 41, MAX}) {
            refused(-3, y -> y.bound(i));
        }
        due(-3, x.bound(0));
        due(-3, x.bound(1));
    }
}
