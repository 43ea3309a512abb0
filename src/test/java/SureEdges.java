/** Edges of promises 21 to 30: what is SURE, and what makes or keeps it so; FITTED. */
final class SureEdges extends Edges {
    private static final int MIN = Integer.MIN_VALUE;
    private static final int MAX = Integer.MAX_VALUE;
    /** Every row of 1 to 3 SOUNDS but bba and bbb is a WORD, and every SENTENCE is one WORD. */
    private static final String TWELVE = "sounds ab;never 0 0;word a use 1 kind 0;word b use 1 kind 0;"
            + "word aa use 1 kind 0;word ab use 1 kind 0;word ba use 1 kind 0;word bb use 1 kind 0;"
            + "word aaa use 1 kind 0;word aab use 1 kind 0;word aba use 1 kind 0;word abb use 1 kind 0;"
            + "word baa use 1 kind 0;word bab use 1 kind 0;";

    /** Behind KIND 0 stands KIND 2 alone, behind KIND 1 KIND 3; both end there. */
    private static final String TWO_ROWS = "like a b;last 0;last 1;never 0 0;never 0 1;never 0 3;never 1 0;never 1 1;"
            + "never 1 2;never 2 0;never 2 1;never 2 2;never 2 3;never 3 0;never 3 1;never 3 2;never 3 3;";

    SureEdges(Quotes quotes) {
        super(quotes);
    }

    @Override
    void all() {
        sure();
        sureWithMistakes();
        unsure();
        unsureAt();
        bears();
        addedAmong();
        addedBest();
        added();
        adds();
        addsRefused();
        mended();
        changed();
        paused();
        pausedWhat();
        begun();
        fittedCost();
        fitted();
        fittedRefused();
    }

    /** A TONGUE of that many SOUNDS with WORDS of USE 1, each told as its SOUNDS and its KIND. */
    private void words(String sounds, String more, String... words) {
        StringBuilder text = new StringBuilder("sounds " + sounds + ";" + more);
        for (String w : words) {
            int n = w.length() - 1;
            text.append("word ").append(w, 0, n).append(" use 1 kind ").append(w.charAt(n)).append(';');
        }
        anew();
        b.tongue(text.toString());
        due(words.length, x.count(2));
    }

    private void dueUnsure(int... lengths) {
        for (int m = 0; m < 3; m++) {
            due(lengths[m], x.unsure(m));
        }
    }

    private void sure() {
        edge(21, "THE TONGUE is SURE with m MISTAKES (0 to 2), if no two unlike SENTENCES of as many SOUNDS "
                + "can be heard as the same SOUNDS");
        // none, or one WORD alone
        dueUnsure(-1, -1, -1);
        words("ab", "");
        dueUnsure(-1, -1, -1);
        words("ab", "like a b;", "a0");
        dueUnsure(-1, -1, -1);
        words("ab", "", "a0", "b0");
        dueUnsure(-1, -1, -1);
        // what can be heard as the same without being like
        words("ab", "", "a0", "aa0");
        dueUnsure(2, 2, 2);
        // what is no SENTENCE doesn't count: no KIND can be last; one never stands behind the other
        words("ab", "last 0;", "a0", "aa0");
        dueUnsure(-1, -1, -1);
        words("ab", "never 0 0;", "a0", "aa0");
        dueUnsure(-1, -1, -1);
        // SENTENCES of one WORD more or less, but never of as many SOUNDS
        words("ab", "like a b;never 0 0;", "a0", "bb0", "aaa0");
        dueUnsure(-1, -1, -1);
    }

    private void sureWithMistakes() {
        edge(21, "m MISTAKES at most being made in each (each takes a SOUND for a like one)");
        words("ab", "like a b;", "a0", "b0");
        dueUnsure(-1, 1, 1);
        // one in each makes two together, two in each four
        words("ab", "like a b;", "aa0", "bb0");
        dueUnsure(-1, 2, 2);
        words("ab", "like a b;", "aaa0", "bbb0");
        dueUnsure(-1, -1, 3);
        words("ab", "like a b;", "aaaa0", "bbbb0");
        dueUnsure(-1, -1, 4);
        words("ab", "like a b;", "aaaaa0", "bbbbb0");
        dueUnsure(-1, -1, -1);
        // both are taken for a third, which is like both
        words("abc", "like a b;like b c;", "a0", "c0");
        dueUnsure(-1, 1, 1);
        words("abc", "like a b;like b c;", "aa0", "cc0");
        dueUnsure(-1, -1, 2);
        // a is not like d, and nothing is like both
        words("abcd", "like a b;like b c;like c d;", "a0", "d0");
        dueUnsure(-1, -1, -1);
        // they are counted over the SENTENCE, not for each WORD: aa.a and b.bb differ in three, and nothing else is said
        words("ab", TWO_ROWS, "aa0", "b1", "a2", "bb3");
        dueUnsure(-1, -1, 3);
        // aaa and bbb are SENTENCES, too, and shorter than aa.aaa and bb.bbb
        words("ab", TWO_ROWS, "aa0", "bb1", "aaa2", "bbb3");
        dueUnsure(-1, -1, 3);
        words("ab", TWO_ROWS + "last 2;", "aa0", "bb1", "aaa2", "bbb3");
        dueUnsure(-1, -1, -1);
    }

    private void unsure() {
        edge(21, "UNSURE with m MISTAKES");
        words("abc", "like b c;", "ab0", "ac0", "aba0", "a1", "ba1");
        // aba, or ab and a, or a and ba; ab for ac by one MISTAKE
        dueUnsure(3, 2, 2);
        edge(21, "UNSURE: the least number of SOUNDS of two that can");
        words("abc", "", "aab0", "aa0", "b0", "ccc0", "c0");
        dueUnsure(3, 3, 3);
        words("abc", "", "aab0", "aa0", "b0", "cc0", "c0");
        dueUnsure(2, 2, 2);
        // five sixes and six fives, which don't mix
        words("ab", "never 0 1;never 1 0;", "aaaaaa0", "aaaaa1");
        dueUnsure(30, 30, 30);
        // the whole SENTENCES count, with what comes behind alike
        words("abc", "last 0;", "a0", "aa0", "bcbcbc1");
        dueUnsure(8, 8, 8);
        words("abc", "last 0;", "bcbcbc1", "a0", "aa0");
        dueUnsure(8, 8, 8);
        // two of six SOUNDS, and no other
        words("ab", "like a b;", "aaaaaa0", "aabbaa0");
        dueUnsure(-1, 6, 6);
        edge(21, "NONE: it is SURE");
        words("ab", "", "ab0", "b0");
        due(-1, x.unsure(0));
        edge(21, "-3: m");
        for (int m : new int[] {MIN, -1, 3, MAX}) {
            refused(-3, y -> y.unsure(m));
            due(-3, x.unsure(m));
        }
    }

    private void dueUnsureLine(int... sounds) {
        for (int i = 0; i < sounds.length; i++) {
            due(sounds[i], x.unsureAt(i));
        }
        due(-1, x.unsureAt(sounds.length));
    }

    private void unsureAt() {
        edge(22, "THE UNSURE LINE: of lines of SOUNDS so many (with m 0) that have two CUTS the first by SOUNDS");
        words("ab", "", "ba0", "b0", "a0", "ab0");
        dueUnsureLine(0, 1);
        // by the SOUNDS' numbers, not by their letters
        words("ba", "", "ba0", "b0", "a0", "ab0");
        dueUnsureLine(0, 1);
        due('b', x.sound(x.unsureAt(0), 0));
        // they differ in their last SOUND alone
        words("abc", "", "a0", "ac0", "c0", "b0", "ab0");
        dueUnsureLine(0, 1);
        // a line that is first by SOUNDS, but longer
        words("abc", "", "a0", "aab0", "b0", "c0", "cc0");
        dueUnsureLine(2, 2);
        // with m 0: MISTAKES don't count
        words("abc", "like a b;", "a0", "b0", "c0", "ccb0");
        dueUnsureLine(2, 2, 1);
        // both end a WORD on the way, of KINDS that can't be last: b.a and ba ahead of ab
        words("ab", "never 0 0;last 1;never 1 1;never 1 3;last 2;never 3 3;", "b2", "ab0", "a1", "ba1", "bb2");
        dueUnsureLine(1, 0, 0, 1);
        // so, too, b.ab.b and babb ahead of babb
        words("ab", "never 0 0;never 0 1;never 0 2;never 0 3;never 1 3;last 2;never 2 0;never 3 0;never 3 1;",
                "babb1", "aabb3", "ab2", "bbbb2", "b2");
        dueUnsureLine(1, 0, 1, 1, 1, 0, 1, 1);
        words("abc", "last 1;never 3 2;", "b0", "cbabaa3", "abc3", "a2", "ba1", "c3", "aaab3");
        dueUnsureLine(0, 1, 2);
        edge(22, "SOUND i of THE UNSURE LINE");
        words("ab", "never 0 1;never 1 0;", "aaaaaa0", "aaaaa1");
        dueUnsureLine(new int[30]);
        edge(22, "NONE: it is SURE, or there are not so many");
        due(-1, x.unsureAt(0));
        words("ab", "", "a0", "b0");
        due(-1, x.unsureAt(0));
        words("ab", "", "a0", "aa0");
        due(0, x.unsureAt(1));
        for (int i : new int[] {MIN, -1, 2, 40, MAX}) {
            due(-1, x.unsureAt(i));
        }
    }

    private void bears() {
        edge(23, "BEARS: the greatest m with which it is SURE");
        due(2, x.bears());
        words("ab", "like a b;", "a0", "b0");
        due(0, x.bears());
        words("ab", "like a b;", "aaa0", "bbb0");
        due(1, x.bears());
        words("ab", "like a b;", "aaaaa0", "bbbbb0");
        due(2, x.bears());
        edge(23, "BEARS");
        words("ab", "", "a0", "b0");
        due(2, x.bears());
        edge(23, "NONE: none");
        words("ab", "", "a0", "aa0");
        due(-1, x.bears());
    }

    private void dueAdded(int kind, int cost, int... sounds) {
        due(sounds.length, x.added(kind, 0));
        due(cost, x.added(kind, 1));
        for (int k = 0; k < 3; k++) {
            due(k < sounds.length ? sounds[k] : -1, x.added(kind, 10 + k));
        }
    }

    private void dueNoneAdded(int kind) {
        for (int what : new int[] {0, 1, 10, 11, 12}) {
            due(-1, x.added(kind, what));
        }
    }

    private void addedAmong() {
        edge(24, "ADDED for a KIND: of rows of 1 to 3 SOUNDS that are no WORDS");
        // a, and what is most unlike it: three SOUNDS at most
        words("ab", "", "a0");
        dueAdded(0, 6, 1, 1, 1);
        // bbb is there: aaa is the first of those that cost 4
        words("ab", "never 0 0;", "a0", "bbb0");
        dueAdded(0, 4, 0, 0, 0);
        edge(24, "of a SHAPE that is told (any without SHAPES)");
        words("ab", "open b;shape so;shape ooo;");
        dueAdded(0, -1, 0, 1);
        words("ab", "open b;shape ooo;shape o;shape oo;");
        dueAdded(0, -1, 1);
        words("ab", "open b;shape sos;", "a0");
        dueAdded(0, 4, 0, 1, 0);
        words("ab", "open b;shape oooo;");
        dueNoneAdded(0);
        words("ab", "");
        dueAdded(0, -1, 0);
        edge(24, "as a WORD of that KIND with which (as one more, also a 13th) THE TONGUE is SURE with 0");
        b.tongue(TWELVE);
        due(12, x.count(2));
        dueAdded(0, 2, 1, 1, 0);
        due(12, x.count(2));
        due(-1, x.unsure(0));
        // aaa is a.a.a, unless a never stands behind a
        words("ab", "never 0 0;open b;shape sss;", "a0");
        dueAdded(0, 4, 0, 0, 0);
        words("ab", "open b;shape sss;", "a0");
        dueNoneAdded(0);
        // aa is a.a as a WORD of KIND 0; as one of KIND 1 it is in no SENTENCE
        words("ab", "never 0 1;never 1 0;last 1;open b;shape ss;", "a0");
        dueNoneAdded(0);
        dueAdded(1, 2, 0, 0);
    }

    private void addedBest() {
        edge(24, "those whose least UNLIKE to all WORDS is greatest (all of them without WORDS)");
        // c is like a: bb is 4 from aa, cc but 2
        words("abc", "like a c;never 0 0;open abc;shape oo;", "aa0");
        dueAdded(0, 4, 1, 1);
        // to all: ab and ba are 2 from both
        words("ab", "never 0 0;open ab;shape oo;", "aa0", "bb0");
        dueAdded(0, 2, 0, 1);
        words("ab", "never 0 0;open ab;shape ooo;", "aaa0", "aab0");
        dueAdded(0, 4, 1, 1, 0);
        words("abc", "open bc;shape oo;");
        dueAdded(0, -1, 1, 1);
        edge(24, "of these the shortest, of these the first by SOUNDS");
        // b, c, bb, bc, .. all are 6 from aaa
        words("abc", "", "aaa0");
        dueAdded(0, 6, 1);
        words("ba", "", "bbb0");
        dueAdded(0, 6, 1);
        words("abc", "open bc;shape oo;shape ooo;", "aaa0");
        dueAdded(0, 6, 1, 1);
    }

    private void added() {
        edge(24, "ADDED for a KIND, what 0: how many SOUNDS");
        words("ab", "", "aaa3");
        for (int kind = 0; kind < 4; kind++) {
            due(1, x.added(kind, 0));
        }
        words("ab", "", "a0");
        due(3, x.added(0, 0));
        edge(24, "1: the least UNLIKE (NONE without WORDS)");
        words("ab", "");
        due(-1, x.added(0, 1));
        due(1, x.added(0, 0));
        words("ab", "", "a0");
        due(6, x.added(0, 1));
        edge(24, "10 + k: SOUND k");
        b.tongue(TWELVE);
        due(1, x.added(0, 10));
        due(1, x.added(0, 11));
        due(0, x.added(0, 12));
        edge(24, "NONE: there is none, not so many");
        // without SOUNDS; where all is said already; where it is not SURE already
        dueNoneAdded(0);
        words("ab", "", "a0", "b0");
        dueNoneAdded(0);
        words("abc", "", "a0", "aa0");
        dueNoneAdded(3);
        words("ab", "", "aaa0");
        due(1, x.added(0, 10));
        due(-1, x.added(0, 11));
        due(-1, x.added(0, 12));
        edge(24, "-2: KIND, what");
        for (int kind : new int[] {MIN, -1, 4, MAX}) {
            refused(-2, y -> y.added(kind, 0));
        }
        for (int what : new int[] {MIN, -1, 2, 9, 13, MAX}) {
            refused(-2, y -> y.added(0, what));
            due(-2, x.added(0, what));
        }
    }

    private void adds() {
        edge(25, "Whether the first n bytes of THE TAPE (which is empty then), as one more WORD of a KIND, "
                + "leave THE TONGUE SURE with m: 1, 0");
        words("abc", "like a b;never 1 1;", "a0");
        due(0, b.adds(0, "aa", 0));
        due(0, b.adds(0, "b", 1));
        due(1, b.adds(0, "b", 0));
        due(1, b.adds(0, "c", 2));
        due(0, x.count(5));
        // the first n bytes alone
        b.feed("cax");
        due(1, x.adds(0, 1, 0));
        due(0, x.count(5));
        // six SOUNDS, any SHAPE, every KIND
        words("abc", "shape o;", "a0");
        for (int kind = 0; kind < 4; kind++) {
            due(1, b.adds(kind, "bbbccc", 2));
            due(0, b.adds(kind, "aaaaaa", 0));
        }
        // by its KIND it is no SENTENCE's
        words("ab", "never 0 1;never 1 0;last 1;", "a0");
        due(1, b.adds(1, "aa", 0));
        due(0, b.adds(0, "aa", 0));
        // THE TONGUE stays as it is
        due(1, x.count(2));
        due(-1, x.unsure(0));
        // a 13th
        b.tongue(TWELVE);
        due(1, b.adds(0, "bbb", 0));
        due(0, b.adds(1, "bbb", 0));
        due(12, x.count(2));
        // not SURE already
        words("abc", "", "a0", "aa0");
        due(0, b.adds(0, "c", 0));
    }

    private void addsRefused() {
        edge(25, "-2: KIND");
        for (int kind : new int[] {MIN, -1, 4, MAX}) {
            refused(-2, y -> y.adds(kind, 3, 0));
            // ahead of all else
            refused(-2, y -> y.adds(kind, -1, 3));
        }
        edge(25, "-3: n, m (THE TAPE stays)");
        for (int n : new int[] {MIN, -1, 21, 500, MAX}) {
            refused(-3, y -> y.adds(0, n, 0));
        }
        for (int m : new int[] {MIN, -1, 3, MAX}) {
            refused(-3, y -> y.adds(0, 3, m));
            // ahead of -9
            refused(-3, y -> y.adds(0, 0, m));
            refused(-3, y -> y.adds(0, 7, m));
        }
        edge(25, "-9: they are not 1 to 6 SOUNDS, or a WORD that is there");
        refusedAndRead(-9, told -> { }, y -> y.adds(0, 0, 0));
        refusedAndRead(-9, told -> { }, y -> y.adds(0, 7, 0));
        refusedAndRead(-9, told -> { }, y -> y.adds(0, 20, 2));
        refusedAndRead(-9, told -> { }, y -> y.adds(0, 1, 0));
        refusedAndRead(-9, told -> { }, y -> y.adds(3, 2, 2));
        refusedAndRead(-9, told -> {
            told.x.spelt(0);
            told.feed("cbx");
        }, y -> y.adds(0, 3, 0));
        due(-9, b.adds(0, "a", 0));
    }

    private void dueMended(int count, int bits) {
        due(count, x.mended(0));
        due(bits, x.mended(1));
    }

    private void mended() {
        edge(26, "MENDED: of sets of 3 WORDS at most without which it is SURE with 0 that of the fewest WORDS");
        dueMended(0, 0);
        words("ab", "", "a0", "b0");
        dueMended(0, 0);
        // a alone stands in the way of all the others: the 12th
        words("abcdefg", "", "b0", "ab0", "c0", "ac0", "d0", "ad0", "e0", "ae0", "f0", "af0", "g0", "a0");
        dueMended(1, 1 << 11);
        words("ab", "", "a0", "aa0", "aaa0");
        dueMended(2, 3);
        words("ab", "", "a0", "aa0", "aaa0", "aaaa0");
        dueMended(3, 7);
        edge(26, "of like ones the least as bits");
        words("ab", "", "a0", "ab0", "ba0");
        dueMended(1, 1);
        words("ab", "", "b0", "a0", "ab0");
        dueMended(1, 1);
        words("abc", "", "c0", "b0", "a0", "ab0");
        dueMended(1, 2);
        // two of four: a and b, not the later ones
        words("ab", "", "a0", "b0", "ab0", "ba0");
        dueMended(2, 3);
        edge(26, "MENDED, what 0: how many WORDS, 1: bits");
        words("abc", "", "c0", "b0", "a0", "ab0", "aa0");
        dueMended(1, 4);
        // left out for the answer alone
        due(5, x.count(2));
        due(2, x.unsure(0));
        edge(26, "NONE: there is none");
        words("ab", "", "a0", "aa0", "aaa0", "aaaa0", "aaaaa0");
        dueMended(-1, -1);
        edge(26, "-2");
        for (int what : new int[] {MIN, -1, 2, MAX}) {
            refused(-2, y -> y.mended(what));
        }
    }

    private void dueChanged(int w, int place, int sound) {
        due(w, x.changed(0));
        due(place, x.changed(1));
        due(sound, x.changed(2));
    }

    private void changed() {
        edge(27, "CHANGED: the first WORD, place, SOUND (another one) by which, standing there instead, "
                + "it is SURE with 0");
        // also where it is SURE already
        words("abc", "", "a0");
        dueChanged(0, 0, 1);
        words("abc", "", "bb0");
        dueChanged(0, 0, 0);
        words("ab", "", "b0", "bab0", "ab0");
        dueChanged(1, 0, 0);
        // a.b is ab: cb would be c.b, and ac can't be a.c
        words("abc", "never 0 1;", "a0", "b0", "c1", "ab0");
        dueChanged(3, 1, 2);
        edge(27, "(what comes of it not being a WORD that is there)");
        words("abc", "", "a0", "b0");
        dueChanged(0, 0, 2);
        words("ab", "", "a0", "b0");
        dueChanged(-1, -1, -1);
        edge(27, "CHANGED, what 0: the WORD, 1: the place, 2: the SOUND");
        words("abc", "never 0 1;", "a0", "b0", "c1", "ab0");
        dueChanged(3, 1, 2);
        // changed for the answer alone
        due(1, x.word(3, 11));
        due(2, x.unsure(0));
        edge(27, "NONE");
        dueChanged(-1, -1, -1);
        words("ab", "", "a0", "b0", "ab0");
        dueChanged(-1, -1, -1);
        edge(27, "-2");
        for (int what : new int[] {MIN, -1, 3, MAX}) {
            refused(-2, y -> y.changed(what));
        }
    }

    private void duePaused(int count, int bits) {
        due(count, x.paused(0));
        due(bits, x.paused(1));
    }

    private void paused() {
        edge(28, "PAUSED: the set of KINDS (bits), the fewest of them, of like ones the least as bits");
        duePaused(0, 0);
        words("ab", "", "a0", "b0");
        duePaused(0, 0);
        // KINDS 0 and 1 (bits 3) would do, but 3 (bits 8) does alone
        words("ab", "", "a0", "aa3", "b1", "bb3");
        duePaused(1, 8);
        words("ab", "", "a3", "ab2", "b1");
        duePaused(1, 2);
        words("ab", "", "a0", "aa1", "aaa2", "aaaa3");
        duePaused(3, 7);
        words("abcd", "", "a0", "aa0", "b1", "bb1", "c2", "cc2", "d3", "dd3");
        duePaused(4, 15);
        edge(28, "by which, a stop being heard (for no SOUND, and never mistaken) behind each WORD of these KINDS, "
                + "THE TONGUE is SURE with 0");
        // behind the last, too: a, b and a stop is not ab without one
        words("ab", "", "a3", "ab2", "b1");
        duePaused(1, 2);
        // behind each: a stop between a and a tells them from aa
        words("ab", "", "a1", "aa2");
        duePaused(1, 2);
        // six SOUNDS and a stop, from six SOUNDS of two WORDS
        words("ab", "", "ababab0", "aba1", "bab1");
        duePaused(1, 1);
        words("ab", "", "aaaaaa3", "aaa1");
        duePaused(1, 2);
        // all of one KIND
        words("ab", "", "a3", "aa3");
        duePaused(1, 8);
        // no MISTAKES are looked at
        words("ab", "like a b;", "a0", "b1");
        duePaused(0, 0);
    }

    private void pausedWhat() {
        edge(28, "PAUSED, what 0: how many KINDS, 1: bits");
        words("ab", "", "a3", "aa3", "b2", "bb2");
        due(2, x.paused(0));
        due(12, x.paused(1));
        due(2, x.unsure(0));
        edge(28, "-2");
        for (int what : new int[] {MIN, -1, 2, MAX}) {
            refused(-2, y -> y.paused(what));
        }
    }

    private void begun() {
        edge(29, "The first WORD (what 0) that begins another one, and the first such (1)");
        words("ab", "", "ba0", "abba0", "ab0", "abb0", "a0");
        due(2, x.begun(0));
        due(1, x.begun(1));
        words("ab", "", "a0", "b0", "ba0", "aa0", "ab0");
        due(0, x.begun(0));
        due(3, x.begun(1));
        words("ab", "", "ababab0", "ababa0");
        due(1, x.begun(0));
        due(0, x.begun(1));
        edge(29, "NONE: none does");
        due(-1, x.begun(0));
        due(-1, x.begun(1));
        words("ab", "", "a0");
        due(-1, x.begun(0));
        words("ab", "", "ab0", "b0", "aab0");
        due(-1, x.begun(0));
        due(-1, x.begun(1));
        edge(29, "-2");
        for (int what : new int[] {MIN, -1, 2, MAX}) {
            refused(-2, y -> y.begun(what));
        }
    }

    private void dueFitted(String text, int cost, int shape) {
        due(cost, b.fitted(text, 0));
        due(0, x.count(5));
        due(shape, b.fitted(text, 1));
        due(0, x.count(5));
    }

    private void fittedCost() {
        edge(30, "FITTED: a row of SOUNDS made to be of a SHAPE at the least cost: put in or left out 2");
        words("ab", "open a;shape os;");
        dueFitted("ab", 0, 0);
        dueFitted("a", 2, 0);
        dueFitted("b", 2, 0);
        dueFitted("", 4, 0);
        dueFitted("aab", 2, 0);
        dueFitted("ba", 4, 0);
        dueFitted("abababababab", 20, 0);
        edge(30, "a SOUND that isn't as the SHAPE has it there: 1, if it is like one that is, else 2 (0 if it is)");
        // c is like a, which is open; d is like b, which is shut as d is
        words("abcd", "open a;like c a;like d b;shape o;");
        dueFitted("a", 0, 0);
        dueFitted("c", 1, 0);
        dueFitted("b", 2, 0);
        dueFitted("d", 2, 0);
        // no SOUND is open: none can be like one
        words("ab", "like a b;shape o;");
        dueFitted("a", 2, 0);
        words("ab", "like a b;open ab;shape s;");
        dueFitted("b", 2, 0);
        edge(30, "the SHAPE with the least, the first of like ones");
        words("ab", "open a;shape ss;shape os;shape so;shape os;");
        dueFitted("ab", 0, 1);
        dueFitted("ba", 0, 2);
        dueFitted("bb", 0, 0);
        dueFitted("aa", 2, 1);
        dueFitted("b", 2, 0);
        dueFitted("", 4, 0);
    }

    private void fitted() {
        edge(30, "FITTED for the first n bytes of THE TAPE (which is empty then), what 0: the cost, 1: the SHAPE");
        words("ab", "open a;shape oooooo;shape sssss;");
        b.feed("bbbbbx");
        due(0, x.fitted(5, 0));
        due(0, x.count(5));
        dueFitted("bbbbb", 0, 1);
        dueFitted("aaaaaaaaaaaa", 12, 0);
        edge(30, "NONE: no SHAPE");
        due(-1, x.fitted(0, 0));
        due(-1, x.fitted(0, 1));
        words("ab", "");
        dueFitted("ab", -1, -1);
        dueFitted("", -1, -1);
        dueFitted("abababababab", -1, -1);
    }

    private void fittedRefused() {
        edge(30, "-2: what");
        for (int what : new int[] {MIN, -1, 2, 10, MAX}) {
            refused(-2, y -> y.fitted(3, what));
            // ahead of -3
            refused(-2, y -> y.fitted(-1, what));
            due(-2, x.fitted(0, what));
        }
        edge(30, "-3: n (THE TAPE stays)");
        for (int n : new int[] {MIN, -1, 21, 500, MAX}) {
            refused(-3, y -> y.fitted(n, 0));
        }
        due(-3, x.fitted(1, 0));
        edge(30, "-9: they are not 0 to 12 SOUNDS");
        refusedAndRead(-9, told -> { }, y -> y.fitted(13, 0));
        refusedAndRead(-9, told -> { }, y -> y.fitted(20, 1));
        refusedAndRead(-9, told -> told.feed("abc".repeat(10)), y -> y.fitted(50, 1));
        refusedAndRead(-9, told -> {
            told.x.spelt(0);
            told.feed("ab?");
        }, y -> y.fitted(3, 1));
        words("ab", "open a;shape o;");
        dueFitted("a".repeat(12), 22, 0);
        due(-9, b.fitted("a".repeat(13), 0));
    }
}
