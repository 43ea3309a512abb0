/** Edges of promises 31 to 40: TALK, CODE, SAID, RICHEST, ENDLESS, LONGEST, NOISE, ASKED, TREE, LIMB. */
final class TalkEdges extends Edges {
    private static final int MIN = Integer.MIN_VALUE;
    private static final int MAX = Integer.MAX_VALUE;
    private static final long MODULUS = 1000000007L;

    TalkEdges(Quotes quotes) {
        super(quotes);
    }

    @Override
    void all() {
        talk();
        code();
        said();
        richest();
        richestAsked();
        endlessAndLongest();
        noiseByDraws();
        noise();
        noiseRefused();
        asked();
        askedRefused();
        tree();
        limb();
        limbAsked();
    }

    /** WORDS of KIND 0, each with a USE. */
    private void used(String sounds, Object... wordsAndUses) {
        StringBuilder text = new StringBuilder("sounds " + sounds + ";");
        for (int i = 0; i < wordsAndUses.length; i += 2) {
            text.append("word ").append(wordsAndUses[i]).append(" use ").append(wordsAndUses[i + 1]).append(" kind 0;");
        }
        anew();
        b.tongue(text.toString());
        due(wordsAndUses.length / 2, x.count(2));
    }

    private void talk() {
        edge(31, "TALK: over all WORDS USE times SOUNDS, together");
        due(0, x.talk());
        used("ab", "aba", 7, "b", 5, "ab", 0);
        due(26, x.talk());
        edge(31, "TALK");
        used("abc", "aaaaaa", 99, "aaaaab", 99, "aaaaac", 99, "aaaaba", 99, "aaaabb", 99, "aaaabc", 99, "aaaaca", 99,
                "aaaacb", 99, "aaaacc", 99, "aaabaa", 99, "aaabab", 99, "aaabac", 99);
        due(12 * 6 * 99, x.talk());
    }

    private void code() {
        edge(32, "CODE for n SOUNDS (2 to 8): the least such sum of rows of SOUNDS, one for each WORD, "
                + "none of which begins another one (however long");
        // 1, 1 and 2: the 2 has one SOUND
        used("ab", "a", 1, "b", 1, "aa", 2);
        due(6, x.code(2));
        due(4, x.code(3));
        due(4, x.code(8));
        // as uses double, the rows grow longer than any WORD is: 32 16 8 4 2 1 1 1
        used("ab", "a", 64, "b", 32, "aa", 16, "ab", 8, "ba", 4, "bb", 2, "aaa", 1, "aab", 1);
        due(64 + 2 * 32 + 3 * 16 + 4 * 8 + 5 * 4 + 6 * 2 + 7 * 2, x.code(2));
        // with 3 SOUNDS one branch is left empty: the two least share a longer row of two
        used("abc", "a", 5, "b", 4, "c", 3, "ab", 2);
        due(5 + 4 + 2 * 3 + 2 * 2, x.code(3));
        // twelve in eight: five of two SOUNDS stand below one, seven have one
        used("ab", "a", 1, "b", 1, "aa", 1, "ab", 1, "ba", 1, "bb", 1, "aaa", 1, "aab", 1, "aba", 1, "abb", 1,
                "baa", 1, "bab", 1);
        due(7 + 2 * 5, x.code(8));
        due(4 * 3 + 8 * 4, x.code(2));
        // USES of 0 cost nothing, but stand there
        used("ab", "a", 0, "b", 0, "aa", 7);
        due(7, x.code(2));
        edge(32, "one WORD alone: 1 SOUND)");
        used("ab", "ababab", 9);
        for (int n = 2; n <= 8; n++) {
            due(9, x.code(n));
        }
        edge(32, "CODE");
        for (int n = 2; n <= 8; n++) {
            due(0, x.code(n));
        }
        edge(32, "-3");
        for (int n : new int[] {MIN, -1, 0, 1, 9, MAX}) {
            refused(-3, y -> y.code(n));
            due(-3, x.code(n));
        }
    }

    private void said() {
        edge(33, "SAID in n SOUNDS (0 to 60): how many unlike SENTENCES have so many");
        used("ab", "a", 1, "bb", 1);
        // no WORD is no SENTENCE
        long[] due = {0, 1, 2, 3, 5, 8};
        for (int n = 0; n < due.length; n++) {
            due(due[n], x.said(n));
        }
        // unlike SENTENCES, not unlike lines
        used("ab", "a", 1, "aa", 1);
        due(2, x.said(2));
        b.tongue("sounds ab;never 0 1;last 2;word a use 1 kind 0;word b use 1 kind 1;word aa use 1 kind 2;");
        // aa, ba, bb; not ab, and not the WORD aa
        due(3, x.said(2));
        edge(33, "modulo 1,000,000,007");
        used("abc", "a", 1, "b", 1, "c", 1);
        long power = 1;
        for (int n = 1; n <= 60; n++) {
            power = power * 3 % MODULUS;
            due(power, x.said(n));
        }
        edge(33, "SAID");
        due(0, x.said(0));
        due(0, x.said(1));
        due(0, x.said(60));
        edge(33, "-3");
        for (int n : new int[] {MIN, -1, 61, MAX}) {
            refused(-3, y -> y.said(n));
            due(-3, x.said(n));
        }
    }

    private void richest() {
        edge(34, "RICHEST of n SOUNDS: of all SENTENCES of so many that with the greatest sum of USES");
        used("ab", "a", 2, "bb", 5, "aba", 6);
        int[] sums = {2, 5, 7, 10, 12, 15};
        for (int n = 1; n <= 6; n++) {
            due(sums[n - 1], x.richest(n, -1));
        }
        // what is said may be anything: THE LINE does not count
        b.line("aaa");
        due(7, x.richest(3, -1));
        // none behind which it never stands, the last can be last
        b.tongue("sounds ab;never 0 0;last 0;word a use 9 kind 0;word b use 1 kind 1;");
        // a.b.b and b.a.b
        due(11, x.richest(3, -1));
        due(0, x.richest(3, 0));
        due(1, x.richest(3, 1));
        due(1, x.richest(3, 2));
        due(10, x.richest(2, -1));
        due(0, x.richest(2, 0));
        due(1, x.richest(1, -1));
        due(1, x.richest(1, 0));
        edge(34, "of like ones the first by WORDS");
        used("ab", "bb", 4, "a", 2, "b", 2);
        due(4, x.richest(2, -1));
        due(0, x.richest(2, 0));
        due(-1, x.richest(2, 1));
        used("ab", "b", 2, "a", 2, "bb", 4);
        due(0, x.richest(2, 0));
        due(0, x.richest(2, 1));
    }

    private void richestAsked() {
        edge(34, "RICHEST of n SOUNDS (1 to 60), k NONE: the sum of USES, else its WORD k");
        used("ab", "a", 99);
        due(99, x.richest(1, OneBreath.NONE));
        due(0, x.richest(1, 0));
        due(60 * 99, x.richest(60, OneBreath.NONE));
        due(0, x.richest(60, 59));
        used("ab", "a", 0);
        due(0, x.richest(60, OneBreath.NONE));
        edge(34, "NONE: there is none such, not so many");
        due(-1, x.richest(1, -1));
        due(-1, x.richest(60, 0));
        used("ab", "aa", 3);
        due(-1, x.richest(3, -1));
        due(-1, x.richest(3, 0));
        due(-1, x.richest(4, 2));
        due(-1, x.richest(4, MAX));
        edge(34, "-3: n, k is below NONE");
        for (int n : new int[] {MIN, -1, 0, 61, MAX}) {
            refused(-3, y -> y.richest(n, 0));
        }
        for (int k : new int[] {MIN, -2}) {
            refused(-3, y -> y.richest(3, k));
            due(-3, x.richest(3, k));
        }
    }

    private void endlessAndLongest() {
        edge(35, "ENDLESS: for each number some SENTENCE has more SOUNDS");
        b.tongue("sounds ab;word a use 1 kind 0;");
        due(1, x.endless());
        b.tongue("sounds ab;never 0 0;word a use 1 kind 0;");
        due(0, x.endless());
        // round by two KINDS, of which but one can be last
        b.tongue("sounds ab;never 0 0;never 1 1;last 1;word a use 1 kind 0;word b use 1 kind 1;");
        due(1, x.endless());
        // round a KIND from which none leads to an end
        b.tongue("sounds ab;last 0;never 0 1;never 1 1;word a use 1 kind 0;word b use 1 kind 1;");
        due(0, x.endless());
        // KINDS without WORDS lead nowhere
        b.tongue("sounds ab;never 0 0;word a use 1 kind 0;");
        due(0, x.endless());
        // round by all four
        b.tongue("sounds ab;last 0;last 1;last 2;never 0 0;never 0 2;never 0 3;never 1 0;never 1 1;never 1 3;never 2 0;"
                + "never 2 1;never 2 2;never 3 1;never 3 2;never 3 3;word a use 1 kind 0;word b use 1 kind 1;"
                + "word aa use 1 kind 2;word bb use 1 kind 3;");
        due(1, x.endless());
        due(-1, x.longest());
        edge(35, "Whether it is ENDLESS: 1, 0");
        due(0, x.endless());
        b.tongue("sounds ab;word a use 1 kind 0;last 0;");
        due(0, x.endless());
        edge(36, "LONGEST: the most SOUNDS that one has");
        b.tongue("sounds ab;never 0 0;word a use 1 kind 0;word ababab use 1 kind 0;word bb use 1 kind 0;");
        due(6, x.longest());
        // in a row 0 1 2 3, each with its longest, the last of them can't be last
        b.tongue("sounds ab;last 3;never 0 0;never 1 1;never 2 2;never 3 3;never 1 0;never 2 0;never 3 0;never 2 1;"
                + "never 3 1;never 3 2;word a use 1 kind 0;word aaa use 1 kind 0;word bbb use 1 kind 1;"
                + "word abab use 1 kind 2;word bbbbbb use 1 kind 3;");
        due(10, x.longest());
        due(0, x.endless());
        edge(36, "LONGEST");
        // one WORD that can't be last, of more SOUNDS than all others
        b.tongue("sounds ab;last 1;never 0 0;never 0 1;never 1 1;never 1 0;word a use 1 kind 0;word bbb use 1 kind 1;");
        due(1, x.longest());
        edge(36, "NONE: ENDLESS, or there is no SENTENCE");
        due(-1, x.longest());
        b.tongue("sounds ab;word a use 1 kind 0;");
        due(-1, x.longest());
        b.tongue("sounds ab;word a use 1 kind 0;last 0;");
        due(-1, x.longest());
        b.tongue("sounds ab;");
        due(-1, x.longest());
    }

    /** The document's draws, told anew. */
    private static final class Draws {
        private int x;

        Draws(int seed) {
            x = seed;
        }

        int draw() {
            x = 1103515245 * x + 12345;
            return x >>> 16;
        }
    }

    private static final int[] SEEDS = {0, 1, -1, 7, 12345, -987654321, MIN, MAX};

    private void noiseByDraws() {
        edge(37, "NOISE by a SEED (x, an int; a DRAW: x becomes 1103515245 x + 12345, it is x >>> 16)");
        // a becomes b, if the first draw is below so much of a hundred
        b.tongue("sounds ab;like a b;word a use 1 kind 0;");
        b.row(0, 0);
        for (int seed : SEEDS) {
            int first = new Draws(seed).draw() % 100;
            due(0, x.noise(0, seed, first, 10));
            due(1, x.noise(0, seed, first + 1, 10));
        }
        edge(37, "SOUND by SOUND, if it is like any others: DRAW modulo 100; below so much of a hundred "
                + "it becomes one of these, by numbers, DRAW modulo how many they are");
        // c is like none: nothing is drawn for it; a is like b, d and e, b like a alone
        b.tongue("sounds abcde;like e a;like a b;like a d;word acba use 1 kind 0;word ccab use 1 kind 0;");
        b.row(0, 0, 1, 0);
        int[] sent = {0, 2, 1, 0, 2, 2, 0, 1, 0, 2, 1, 0};
        int[][] like = {{1, 3, 4}, {0}, {}, {0}, {0}};
        for (int seed : SEEDS) {
            Draws draws = new Draws(seed);
            int made = 0;
            for (int i = 0; i < sent.length; i++) {
                int sound = sent[i];
                int[] others = like[sound];
                if (others.length > 0 && draws.draw() % 100 < 60) {
                    sound = others[draws.draw() % others.length];
                    made++;
                }
                due(sound, x.noise(0, seed, 60, 10 + i));
            }
            due(made, x.noise(0, seed, 60, 0));
        }
    }

    private void noise() {
        edge(37, "Of a ROW OF NUMBERS, a SENTENCE of 40 SOUNDS at most, said once through NOISE");
        b.tongue("sounds ab;like a b;word a use 1 kind 0;word ababab use 1 kind 0;");
        b.line("ab");
        x.numbers(3, 1, 40);
        due(0, x.noise(3, 5, 0, 0));
        due(40, x.noise(3, 5, 100, 0));
        // THE LINE stays, and so does the ROW
        due(2, x.count(4));
        due(1, x.judge(3, 1));
        edge(37, "what 0: how many MISTAKES were made");
        b.tongue("sounds abc;like a b;word abc use 1 kind 0;");
        b.row(0, 0, 0);
        due(0, x.noise(0, 9, 0, 0));
        due(4, x.noise(0, 9, 100, 0));
        edge(37, "1: 1 if HEARD is that SENTENCE, else 0");
        b.tongue("sounds abc;like a b;word abc use 1 kind 0;word bac use 1 kind 0;");
        b.row(0, 0);
        due(1, x.noise(0, 9, 0, 1));
        // abc comes as bac
        due(0, x.noise(0, 9, 100, 1));
        b.tongue("sounds abc;like a b;word abc use 1 kind 0;");
        due(1, x.noise(0, 9, 100, 1));
        // without MISTAKES another CUT of more USE is HEARD
        b.tongue("sounds ab;word a use 1 kind 0;word aa use 9 kind 0;");
        b.row(0, 0, 0);
        due(0, x.noise(0, 9, 0, 1));
        b.row(0, 1);
        due(1, x.noise(0, 9, 0, 1));
        edge(37, "10 + i: its SOUND i as it comes (NONE: not so many)");
        b.tongue("sounds ab;like a b;word ab use 1 kind 0;");
        b.row(0, 0);
        due(0, x.noise(0, 9, 0, 10));
        due(1, x.noise(0, 9, 0, 11));
        due(1, x.noise(0, 9, 100, 10));
        due(0, x.noise(0, 9, 100, 11));
        due(-1, x.noise(0, 9, 100, 12));
        due(-1, x.noise(0, 9, 100, 49));
        x.numbers(1, 0, 20);
        due(1, x.noise(1, 9, 0, 49));
    }

    private void noiseRefused() {
        edge(37, "-2: the ROW, what (i 0 to 39)");
        for (int row : new int[] {MIN, -1, 4, MAX}) {
            refused(-2, y -> y.noise(row, 1, 50, 0));
        }
        for (int what : new int[] {MIN, -1, 2, 9, 50, MAX}) {
            refused(-2, y -> y.noise(0, 1, 50, what));
            // ahead of -6 and -3
            refused(-2, y -> y.noise(3, 1, 101, what));
        }
        edge(37, "-6");
        refused(-6, y -> y.noise(3, 1, 50, 0));
        // ahead of -3
        refused(-6, y -> y.noise(3, 1, 101, 49));
        edge(37, "-3: it is none, too long, hundredths (0 to 100)");
        refused(-3, y -> y.noise(2, 1, 50, 0));
        refused(-3, told -> told.row(1, 0, 3), y -> y.noise(1, 1, 50, 10));
        refused(-3, told -> told.row(1, 0, 4, 0), y -> y.noise(1, 1, 50, 1));
        refused(-3, told -> told.row(1, 2, 2, 0), y -> y.noise(1, 1, 50, 0));
        refused(-3, told -> tooLong(told, 2), y -> y.noise(2, 1, 50, 0));
        for (int hundredths : new int[] {MIN, -1, 101, MAX}) {
            refused(-3, y -> y.noise(0, 1, hundredths, 0));
        }
        b.tongue("sounds ab;like a b;word a use 1 kind 0;");
        b.row(0, 0);
        due(0, x.noise(0, 1, 0, 0));
        due(1, x.noise(0, 1, 100, 0));
    }

    /** Of 41 SOUNDS, by the WORDS a and ab of the world behind refused(). */
    private static void tooLong(Bench told, int row) {
        told.x.numbers(row, 0, 21);
        for (int i = 1; i < 21; i++) {
            told.x.write(row, i, 1);
        }
    }

    private void asked() {
        edge(38, "ASKED: a SENTENCE is said through NOISE again and again (the DRAWS go on) "
                + "till what is HEARD of it is that SENTENCE, 9 times at most");
        b.tongue("sounds ab;like a b;word a use 1 kind 0;word b use 1 kind 0;");
        b.row(0, 0, 1);
        boolean[] seen = new boolean[11];
        for (int seed = -100; seed < 100; seed++) {
            Draws draws = new Draws(seed);
            int times = 0;
            boolean heard = false;
            while (!heard && times < 10) {
                times++;
                boolean first = mistaken(draws);
                boolean second = mistaken(draws);
                heard = !first && !second;
            }
            seen[times] = true;
            due(times == 10 ? -1 : times, x.asked(0, seed, 75));
        }
        due(1, seen[1] && seen[2] && seen[9] && seen[10] ? 1 : 0);
        edge(38, "ASKED: how many times it is said");
        b.tongue("sounds ab;like a b;word a use 1 kind 0;");
        // nothing else can be heard
        b.row(0, 0, 0);
        due(1, x.asked(0, 3, 100));
        due(1, x.asked(0, 3, 0));
        x.numbers(1, 0, 40);
        due(1, x.asked(1, 3, 100));
        due(0, x.count(4));
        edge(38, "NONE: 9 times don't do");
        b.tongue("sounds ab;like a b;word a use 1 kind 0;word b use 1 kind 0;");
        b.row(0, 0);
        due(-1, x.asked(0, 3, 100));
        // what is HEARD is another CUT, always
        b.tongue("sounds ab;word a use 1 kind 0;word aa use 9 kind 0;");
        b.row(0, 0, 0);
        due(-1, x.asked(0, 3, 0));
    }

    /** One SOUND that is like one other: whether it becomes that. */
    private static boolean mistaken(Draws draws) {
        boolean made = draws.draw() % 100 < 75;
        if (made) {
            draws.draw();
        }
        return made;
    }

    private void askedRefused() {
        edge(38, "-2: the ROW");
        for (int row : new int[] {MIN, -1, 4, MAX}) {
            refused(-2, y -> y.asked(row, 1, 50));
            refused(-2, y -> y.asked(row, 1, 101));
        }
        edge(38, "-6");
        refused(-6, y -> y.asked(3, 1, 50));
        refused(-6, y -> y.asked(3, 1, -1));
        edge(38, "-3 as noise()");
        refused(-3, y -> y.asked(2, 1, 50));
        refused(-3, told -> told.row(1, 0, 3), y -> y.asked(1, 1, 50));
        refused(-3, told -> tooLong(told, 2), y -> y.asked(2, 1, 50));
        for (int hundredths : new int[] {MIN, -1, 101, MAX}) {
            refused(-3, y -> y.asked(0, 1, hundredths));
        }
    }

    private void tree() {
        edge(39, "TREE: how many unlike beginnings all WORDS have, whole ones, too, and 1 more for the empty one");
        used("ab", "aba", 1, "abb", 1, "b", 1);
        // a, ab, aba, abb, b
        due(6, x.tree());
        used("ab", "ab", 1, "aba", 1, "a", 1);
        due(4, x.tree());
        used("ab", "ababab", 1);
        due(7, x.tree());
        edge(39, "TREE");
        due(1, x.tree());
        b.tongue("sounds ab;");
        due(1, x.tree());
    }

    private void dueLimb(int k, int shared, int... sounds) {
        due(sounds.length, x.limb(k, 0));
        due(shared, x.limb(k, 1));
        for (int i = 0; i < 6; i++) {
            due(i < sounds.length ? sounds[i] : -1, x.limb(k, 10 + i));
        }
    }

    private void limb() {
        edge(40, "LIMB for k (1 to 12): the longest beginning (the empty one, too) that k WORDS or more have");
        used("abc", "cba", 1, "bcb", 1, "bca", 1, "b", 1, "cb", 1, "aa", 1);
        dueLimb(1, 1, 1, 2, 0);
        dueLimb(2, 2, 1, 2);
        dueLimb(3, 3, 1);
        // the empty one, which all have
        dueLimb(4, 6);
        dueLimb(6, 6);
        // or more
        used("ab", "aba", 1, "abb", 1, "abab", 1, "abba", 1);
        dueLimb(1, 1, 0, 1, 0, 1);
        dueLimb(2, 2, 0, 1, 0);
        dueLimb(3, 4, 0, 1);
        dueLimb(4, 4, 0, 1);
        used("abc", "aaaaaa", 1, "aaaaab", 1, "aaaaac", 1, "aaaaba", 1, "aaaabb", 1, "aaaabc", 1, "aaaaca", 1,
                "aaaacb", 1, "aaaacc", 1, "aaabaa", 1, "aaabab", 1, "aaabac", 1);
        dueLimb(12, 12, 0, 0, 0);
        dueLimb(1, 1, 0, 0, 0, 0, 0, 0);
        edge(40, "of like ones the first by SOUNDS");
        used("abc", "ca", 1, "cb", 1, "ab", 1, "ac", 1, "bb", 1);
        dueLimb(1, 1, 0, 1);
        dueLimb(2, 2, 0);
        // by numbers, not by letters
        used("cba", "ca", 1, "cb", 1, "ab", 1, "ac", 1, "bb", 1);
        dueLimb(1, 1, 0, 1);
    }

    private void limbAsked() {
        edge(40, "LIMB for k, what 0: how many SOUNDS, 1: how many WORDS have it, 10 + i: its SOUND i");
        used("ab", "ababab", 1, "ababaa", 1);
        dueLimb(1, 1, 0, 1, 0, 1, 0, 0);
        dueLimb(2, 2, 0, 1, 0, 1, 0);
        edge(40, "NONE: not so many SOUNDS, fewer than k WORDS");
        used("ab", "ab", 1);
        due(1, x.limb(1, 11));
        for (int what = 12; what <= 15; what++) {
            due(-1, x.limb(1, what));
        }
        for (int what : new int[] {0, 1, 10, 15}) {
            due(-1, x.limb(2, what));
            due(-1, x.limb(12, what));
        }
        anew();
        due(-1, x.limb(1, 0));
        edge(40, "-3: k");
        for (int k : new int[] {MIN, -1, 0, 13, MAX}) {
            refused(-3, y -> y.limb(k, 0));
            // ahead of -2
            refused(-3, y -> y.limb(k, 2));
        }
        edge(40, "-2: what");
        for (int what : new int[] {MIN, -1, 2, 9, 16, MAX}) {
            refused(-2, y -> y.limb(1, what));
            // also with fewer than k WORDS
            due(-2, x.limb(12, what));
        }
    }
}
