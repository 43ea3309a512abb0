/** Every promise of the document: ordinary calls, the edges that it names, and refused calls. */
public final class PromisesTest {
    /** Three sounds, b and c like one another; "aba" has two cuts. */
    private static final String PLAIN = "sounds abc;open a;like b c;word a use 5 kind 0;"
            + "word ab use 3 kind 0;word ba use 2 kind 1;";
    private static final Bench B = new Bench("promises");

    public static void main(String[] args) {
        newObject();
        feed();
        tongue();
        tongueFaults();
        moreFaults();
        fault();
        sound();
        wordAndShape();
        behindAndEnds();
        spelt();
        unlikeAndNear();
        judge();
        say();
        lineAndAt();
        cuts();
        cut();
        secondCut();
        mostUseAndHeard();
        bound();
        unsure();
        unsureByMistakes();
        unsureAt();
        unsureBehindOthers();
        bears();
        added();
        adds();
        mended();
        changed();
        paused();
        begun();
        fitted();
        talkAndCode();
        said();
        richest();
        endlessAndLongest();
        noise();
        asked();
        treeAndLimb();
        numbersAndWrite();
        copy();
        images();
        count();
        B.end();
    }

    private static void newObject() {
        B.anew();
        for (int what = 0; what <= 5; what++) {
            B.due("count(" + what + ")", B.x.count(what), 0);
        }
        B.due("sound(0, 0)", B.x.sound(0, 0), -2);
        B.due("fault(0)", B.x.fault(0), 0);
        B.due("fault(1)", B.x.fault(1), -1);
        B.due("judge(0, 0)", B.x.judge(0, 0), -6);
        B.due("restore(0)", B.x.restore(0), -5);
        B.due("restore(1)", B.x.restore(1), -5);
        B.due("at(0)", B.x.at(0), -1);
        B.due("NONE", OneBreath.NONE, -1);
    }

    private static void feed() {
        B.anew();
        for (int i = 1; i <= 25; i++) {
            B.due("feed", B.x.feed(0, 0, 0, 0, 0), 20 * i);
        }
        B.due("feed above 500", B.x.feed(0, 0, 0, 0, 0), -5);
        B.due("count(5)", B.x.count(5), 500);
        // the highest byte of each int comes first: "soun" "ds a" "b;" and blanks
        B.anew();
        B.x.feed(0x736f756e, 0x64732061, 0x623b2020, 0x20202020, 0x20202020);
        B.due("tongue(10)", B.x.tongue(10), 1);
        B.due("sound(1, 0)", B.x.sound(1, 0), 'b');
    }

    private static void tongue() {
        B.anew();
        B.due("tongue(1) without bytes", B.x.tongue(1), -3);
        B.feed("sounds ab;");
        B.due("tongue(-1)", B.x.tongue(-1), -3);
        B.due("tongue(21)", B.x.tongue(21), -3);
        B.due("the tape stays", B.x.count(5), 20);
        B.due("tongue(20)", B.x.tongue(20), 1);
        B.due("the tape is empty", B.x.count(5), 0);
        B.due("line", B.line("ab"), 2);
        B.due("a fault", B.tongue("sounds abc;;"), -32);
        B.due("the tape is empty with a fault", B.x.count(5), 0);
        B.due("sounds stay with a fault", B.x.count(1), 2);
        B.due("the line stays with a fault", B.x.count(4), 2);
        B.due("another tongue", B.tongue("\n sounds\nxyz ; last 1;never 1 2;"), 3);
        B.due("the line is empty", B.x.count(4), 0);
        B.due("lines", B.x.count(0), 3);
        B.feed("sounds ab;");
        B.due("tongue(0)", B.x.tongue(0), 0);
        B.due("no sounds", B.x.count(1), 0);
        B.due("the tape is empty", B.x.count(5), 0);
        B.due("ends(1) anew", B.x.ends(1), 1);
        B.due("behind(1) anew", B.x.behind(1), 15);
        // tokens go on as long as they can, and need no blanks between them
        B.due("no blanks", B.tongue("sounds use;word sue use7kind3;like u s;open e;open us;shape os;"), 6);
        B.due("use", B.x.word(0, 1), 7);
        B.due("kind", B.x.word(0, 2), 3);
        B.due("later open ones strike: u", B.x.sound(0, 1), 1);
        B.due("later open ones strike: e", B.x.sound(2, 1), 0);
        B.due("no open ones", B.tongue("sounds use;like u s;"), 2);
        B.due("no open ones", B.x.sound(0, 1), 0);
        B.due("digits", B.tongue("sounds ab;word a use 007 kind 003;never 00 003;"), 3);
        B.due("use 007", B.x.word(0, 1), 7);
        B.due("eight sounds", B.tongue("sounds hgfedcba;"), 1);
        B.due("sound 7", B.x.sound(7, 0), 'a');
    }

    private static void faultAt(String text, int kind, int place) {
        B.due("tongue of '" + text + "'", B.tongue(text), -30 - kind);
        B.due("fault(0) of '" + text + "'", B.x.fault(0), kind);
        B.due("fault(1) of '" + text + "'", B.x.fault(1), place);
    }

    private static void tongueFaults() {
        B.anew();
        faultAt("!", 1, 0);
        faultAt("sounds ab; Word", 1, 11);
        faultAt("sounds\tab;", 1, 6);
        faultAt("sounds ab\u00e4;", 1, 9);
        faultAt("sounds a\u00e4;", 3, 7);
        faultAt("last 0001;", 1, 5);
        faultAt("last 0;1234567 ;", 1, 7);
        faultAt("never 1 2345;", 1, 8);
        faultAt(";", 2, 0);
        faultAt("last 0;;", 2, 7);
        faultAt("12;", 2, 0);
        faultAt("last", 2, 4);
        faultAt("last  ", 2, 6);
        faultAt("last 1 \n", 2, 8);
        faultAt("last x;", 2, 5);
        faultAt("last 1 2;", 2, 7);
        faultAt("never 1;", 2, 7);
        faultAt("sounds 12;", 2, 7);
        faultAt("sounds ab cd;", 2, 10);
        faultAt("sound ab;", 2, 0);
        faultAt("soundss ab;", 2, 0);
        faultAt("last 1;shape o;sounds ab;", 2, 7);
        faultAt("sounds ab;word a use x kind 0;", 2, 21);
        faultAt("sounds ab;word a uses 1 kind 0;", 2, 17);
        faultAt("sounds ab;word a use 1 use 0;", 2, 23);
        faultAt("sounds ab;word 1 use 1 kind 0;", 2, 15);
        faultAt("sounds ab;like a;", 2, 16);
        faultAt("sounds ab;open;", 2, 14);
        faultAt("sounds ab;x;", 2, 10);
        faultAt("sounds ab;words a use 1 kind 0;", 2, 10);
    }

    private static void moreFaults() {
        B.anew();
        faultAt("sounds abcdefghi;", 3, 7);
        faultAt("sounds abca;", 3, 7);
        faultAt("sounds a;", 3, 7);
        faultAt("sounds ab;open abc;", 3, 15);
        faultAt("sounds ab;open bab;", 3, 15);
        faultAt("sounds ab;like c a;", 3, 15);
        faultAt("sounds ab;like a ab;", 3, 17);
        faultAt("sounds ab;like a c;", 3, 17);
        faultAt("sounds ab;like a a;", 3, 17);
        faultAt("sounds ab;word abababa use 1 kind 0;", 3, 15);
        faultAt("sounds ab;word a use 1 kind 0;word a use 2 kind 1;", 3, 35);
        faultAt("sounds ab;word a use 999 kind 0;", 3, 21);
        faultAt("sounds ab;word a use 1 kind 10;", 3, 28);
        faultAt("sounds ab;shape sot;", 3, 16);
        faultAt("sounds os;shape ooooooo;", 3, 16);
        faultAt("never 0 4;", 3, 8);
        faultAt("last 100;", 3, 5);
        // the first along the text
        faultAt("sounds aa;!", 3, 7);
        faultAt("last 9 9;", 3, 5);
        faultAt("sounds ab;sounds a;", 4, 10);
        faultAt("sounds ab;sounds", 4, 10);
        StringBuilder text = new StringBuilder("sounds ab;");
        String[] words = {"a", "b", "aa", "ab", "ba", "bb", "aaa", "aab", "aba", "abb", "baa", "bab"};
        for (String w : words) {
            text.append("word ").append(w).append(" use 1 kind 0;");
        }
        B.due("twelve words", B.tongue(text.toString()), 13);
        faultAt(text + "word a use 1 kind 0;", 4, text.length());
        faultAt(text + "word", 4, text.length());
        String shapes = "sounds ab;shape o;shape s;shape o;shape o;shape o;shape oosoos;";
        B.due("six shapes", B.tongue(shapes), 7);
        faultAt(shapes + "shape 1;", 4, shapes.length());
        B.due("shapes stay", B.x.count(3), 6);
        B.due("words may be names", B.tongue("sounds wordkinds;word word use 1 kind 0;word kind use 2 kind 1;"), -33);
        B.due("words may be names", B.tongue("sounds wordkin;word word use 1 kind 0;word kind use 2 kind 1;"), 3);
    }

    private static void fault() {
        B.anew();
        B.tongue("x");
        B.due("fault(0)", B.x.fault(0), 2);
        B.due("fault(1)", B.x.fault(1), 0);
        B.due("fault(2)", B.x.fault(2), -1);
        B.due("fault(-1)", B.x.fault(-1), -1);
        B.due("tongue(1) is not read", B.x.tongue(1), -3);
        B.due("fault(0) stays", B.x.fault(0), 2);
        B.tongue("last 0;");
        B.due("fault(0) is gone", B.x.fault(0), 0);
        B.due("fault(1) is gone", B.x.fault(1), -1);
    }

    private static void sound() {
        B.anew();
        B.tongue("sounds xyza;open za;like x a;like a y;like x a;");
        B.due("sound(2, 0)", B.x.sound(2, 0), 'z');
        B.due("sound(2, 1)", B.x.sound(2, 1), 1);
        B.due("sound(0, 1)", B.x.sound(0, 1), 0);
        B.due("sound(3, 2)", B.x.sound(3, 2), 3);
        B.due("sound(0, 2)", B.x.sound(0, 2), 8);
        B.due("sound(2, 2)", B.x.sound(2, 2), 0);
        B.due("sound(4, 0)", B.x.sound(4, 0), -2);
        B.due("sound(-1, 0)", B.x.sound(-1, 0), -2);
        B.due("sound(0, 3)", B.x.sound(0, 3), -2);
        B.due("sound(0, -1)", B.x.sound(0, -1), -2);
    }

    private static void wordAndShape() {
        B.anew();
        B.tongue("sounds ab;word abbaba use 99 kind 3;shape ossoso;shape s;");
        B.due("word(0, 0)", B.x.word(0, 0), 6);
        B.due("word(0, 1)", B.x.word(0, 1), 99);
        B.due("word(0, 2)", B.x.word(0, 2), 3);
        B.due("word(0, 3)", B.x.word(0, 3), -2);
        B.due("word(0, 9)", B.x.word(0, 9), -2);
        B.due("word(0, 10)", B.x.word(0, 10), 0);
        B.due("word(0, 14)", B.x.word(0, 14), 1);
        B.due("word(0, 16)", B.x.word(0, 16), -2);
        B.due("word(0, -1)", B.x.word(0, -1), -2);
        B.due("word(1, 0)", B.x.word(1, 0), -2);
        B.due("word(-1, 0)", B.x.word(-1, 0), -2);
        B.due("shape(0, NONE)", B.x.shape(0, -1), 6);
        B.due("shape(0, 0)", B.x.shape(0, 0), 1);
        B.due("shape(0, 1)", B.x.shape(0, 1), 0);
        B.due("shape(0, 5)", B.x.shape(0, 5), 1);
        B.due("shape(0, 6)", B.x.shape(0, 6), -2);
        B.due("shape(1, NONE)", B.x.shape(1, -1), 1);
        B.due("shape(1, 0)", B.x.shape(1, 0), 0);
        B.due("shape(1, 1)", B.x.shape(1, 1), -2);
        B.due("shape(0, -2)", B.x.shape(0, -2), -2);
        B.due("shape(2, 0)", B.x.shape(2, 0), -2);
        B.due("shape(-1, 0)", B.x.shape(-1, 0), -2);
    }

    private static void behindAndEnds() {
        B.anew();
        B.tongue("never 0 1;never 0 3;never 3 3;last 2;last 2;");
        int[] behind = {5, 15, 15, 7};
        int[] ends = {1, 1, 0, 1};
        for (int kind = 0; kind < 4; kind++) {
            B.due("behind(" + kind + ")", B.x.behind(kind), behind[kind]);
            B.due("ends(" + kind + ")", B.x.ends(kind), ends[kind]);
        }
        B.due("behind(4)", B.x.behind(4), -2);
        B.due("behind(-1)", B.x.behind(-1), -2);
        B.due("ends(4)", B.x.ends(4), -2);
        B.due("ends(-1)", B.x.ends(-1), -2);
    }

    private static void spelt() {
        B.anew();
        B.tongue(PLAIN);
        B.due("spelt a", B.spelt("a"), 0);
        B.due("spelt ba", B.spelt("ba"), 2);
        B.due("spelt bb", B.spelt("bb"), -1);
        B.due("spelt aba", B.spelt("aba"), -1);
        B.due("spelt no sounds", B.spelt("x"), -1);
        B.due("the tape is empty", B.x.count(5), 0);
        B.due("spelt(1)", B.x.spelt(1), -3);
        B.due("spelt(-1)", B.x.spelt(-1), -3);
        B.due("spelt(0)", B.x.spelt(0), -1);
        B.feed("ab");
        B.due("spelt(21)", B.x.spelt(21), -3);
        B.due("the tape stays", B.x.count(5), 20);
        B.due("spelt(0)", B.x.spelt(0), -1);
        B.due("the tape is empty", B.x.count(5), 0);
        B.feed("aaaaaaaaaabbbbbbbbbbaaaaaaaaaabbbbbbbbbbaaaaaaaaaabbbbbbbbbb");
        B.due("spelt(60)", B.x.spelt(60), -1);
        B.due("the tape is empty", B.x.count(5), 0);
    }

    private static void unlikeAndNear() {
        B.anew();
        B.tongue("sounds abcd;like a b;like b c;word a use 1 kind 0;word c use 1 kind 0;word b use 1 kind 0;"
                + "word abcd use 1 kind 0;word bbc use 1 kind 0;word dabc use 1 kind 0;");
        B.due("unlike a c", B.x.unlike(0, 1), 2);
        B.due("unlike a b", B.x.unlike(0, 2), 1);
        B.due("unlike c b", B.x.unlike(1, 2), 1);
        B.due("unlike abcd bbc", B.x.unlike(3, 4), 3);
        B.due("unlike bbc abcd", B.x.unlike(4, 3), 3);
        B.due("unlike abcd dabc", B.x.unlike(3, 5), 4);
        B.due("unlike abcd abcd", B.x.unlike(3, 3), 0);
        B.due("unlike a abcd", B.x.unlike(0, 3), 6);
        B.due("unlike(6, 0)", B.x.unlike(6, 0), -2);
        B.due("unlike(0, -1)", B.x.unlike(0, -1), -2);
        B.due("near a", B.x.near(0), 2);
        B.due("near b: of like ones the first", B.x.near(2), 0);
        B.due("near dabc", B.x.near(5), 4);
        B.due("near(6)", B.x.near(6), -2);
        B.due("near(-1)", B.x.near(-1), -2);
        B.tongue("sounds ab;word a use 1 kind 0;");
        B.due("near, but one", B.x.near(0), -1);
    }

    private static void judge() {
        B.anew();
        B.tongue("sounds ab;never 0 1;last 0;word a use 1 kind 0;word bb use 20 kind 1;");
        B.due("judge(4, 0)", B.x.judge(4, 0), -2);
        B.due("judge(-1, 0)", B.x.judge(-1, 0), -2);
        B.due("judge(0, 4) tells what first", B.x.judge(0, 4), -2);
        B.due("judge(0, -1)", B.x.judge(0, -1), -2);
        B.due("judge(0, 0)", B.x.judge(0, 0), -6);
        judged(new long[] {}, -1, 0, 0, 0);
        judged(new long[] {1, 1}, -1, 1, 4, 40);
        judged(new long[] {1, 0}, -1, 0, 3, 21);
        judged(new long[] {1, 0, 1}, 2, 0, 3, 21);
        judged(new long[] {1, 2, 1}, 1, 0, 2, 20);
        judged(new long[] {-1}, 0, 0, 0, 0);
        judged(new long[] {1, 1L << 32}, 1, 0, 2, 20);
    }

    private static void judged(long[] words, int place, int sentence, int sounds, int uses) {
        B.row(1, words);
        B.due("judge(1, 0)", B.x.judge(1, 0), place);
        B.due("judge(1, 1)", B.x.judge(1, 1), sentence);
        B.due("judge(1, 2)", B.x.judge(1, 2), sounds);
        B.due("judge(1, 3)", B.x.judge(1, 3), uses);
    }

    private static void say() {
        B.anew();
        B.tongue("sounds ab;last 0;word a use 1 kind 0;word abbabb use 20 kind 1;");
        B.due("say(4)", B.x.say(4), -2);
        B.due("say(-1)", B.x.say(-1), -2);
        B.due("say(2)", B.x.say(2), -6);
        B.row(2, 0, 1);
        B.due("say(2)", B.x.say(2), 7);
        B.due("at(0)", B.x.at(0), 0);
        B.due("at(1)", B.x.at(1), 0);
        B.due("at(3)", B.x.at(3), 1);
        B.due("at(7)", B.x.at(7), -1);
        B.row(3, 1, 0);
        B.due("no sentence", B.x.say(3), -3);
        B.row(3, 1, 1, 1, 1, 1, 1, 1);
        B.due("42 sounds", B.x.say(3), -5);
        B.due("the line stays", B.x.count(4), 7);
        B.row(3, 0, 0, 0, 0, 1, 1, 1, 1, 1, 1);
        B.due("40 sounds", B.x.say(3), 40);
        B.due("at(39)", B.x.at(39), 1);
        B.due("at(40)", B.x.at(40), -1);
        B.row(3);
        B.due("an empty row", B.x.say(3), -3);
        B.due("cut(0, NONE) of what was said", B.x.cut(0, -1), 10);
        B.due("say(2) again", B.x.say(2), 7);
        B.due("cut(0, NONE) of what is said now", B.x.cut(0, -1), 2);
    }

    private static void lineAndAt() {
        B.anew();
        B.tongue(PLAIN);
        B.due("line abc", B.line("abc"), 3);
        B.due("at(-1)", B.x.at(-1), -1);
        B.due("at(2)", B.x.at(2), 2);
        B.due("at(3)", B.x.at(3), -1);
        B.due("the tape is empty", B.x.count(5), 0);
        B.due("line abd", B.line("abd"), -9);
        B.due("the tape is empty", B.x.count(5), 0);
        B.due("the line stays", B.x.count(4), 3);
        B.feed("aaaaaaaaaaaaaaaaaaaaaaaaaaaaaaaaaaaaaaaaa");
        B.due("line(41)", B.x.line(41), -3);
        B.due("line(-1)", B.x.line(-1), -3);
        B.due("the tape stays", B.x.count(5), 60);
        B.due("line(40)", B.x.line(40), 40);
        B.due("at(39)", B.x.at(39), 0);
        B.due("line(1)", B.x.line(1), -3);
        B.due("line(0)", B.x.line(0), 0);
        B.due("count(4)", B.x.count(4), 0);
    }

    private static void cuts() {
        B.anew();
        B.tongue(PLAIN);
        B.line("aba");
        B.due("cuts(0)", B.x.cuts(0), 2);
        B.line("aca");
        B.due("cuts(0)", B.x.cuts(0), 0);
        B.due("cuts(1)", B.x.cuts(1), 2);
        B.line("acaca");
        B.due("cuts(1)", B.x.cuts(1), 0);
        B.due("cuts(2)", B.x.cuts(2), 3);
        B.due("cuts(-1)", B.x.cuts(-1), -3);
        B.due("cuts(3)", B.x.cuts(3), -3);
        B.line("");
        B.due("cuts(2) of nothing", B.x.cuts(2), 0);
        // 2 to the 39 ways to cut 40 sounds, and more of longer words: modulo
        B.tongue("sounds ab;word a use 1 kind 0;word aa use 1 kind 0;word aaa use 1 kind 0;"
                + "word aaaa use 1 kind 0;word aaaaa use 1 kind 0;word aaaaaa use 1 kind 0;");
        B.line("a".repeat(40));
        long[] ways = new long[41];
        ways[0] = 1;
        for (int i = 1; i <= 40; i++) {
            for (int k = 1; k <= 6 && k <= i; k++) {
                ways[i] += ways[i - k];
            }
        }
        B.due("cuts(0) modulo", B.x.cuts(0), ways[40] % 1000000007L);
        B.due("bound(20) modulo", B.x.bound(20), ways[20] * ways[20] % 1000000007L);
    }

    private static void cut() {
        B.anew();
        B.tongue(PLAIN);
        B.due("cut of nothing", B.x.cut(0, -1), -1);
        B.line("aba");
        B.due("cut(4, -2) tells which first", B.x.cut(4, -2), -2);
        B.due("cut(-1, 0)", B.x.cut(-1, 0), -2);
        B.due("cut(0, -2)", B.x.cut(0, -2), -3);
        B.due("cut(0, NONE)", B.x.cut(0, -1), 2);
        B.due("cut(0, 1)", B.x.cut(0, 1), 2);
        B.due("cut(0, 2)", B.x.cut(0, 2), -1);
        B.due("cut(1, 0)", B.x.cut(1, 0), 1);
        B.due("cut(1, 1)", B.x.cut(1, 1), 0);
        B.due("cut(2, 0)", B.x.cut(2, 0), 1);
        B.line("a");
        B.due("cut(0, 0) of a", B.x.cut(0, 0), 0);
        B.due("no second", B.x.cut(1, -1), -1);
        B.due("no second", B.x.cut(1, 0), -1);
        B.line("c");
        B.due("none heard", B.x.cut(3, -1), -1);
    }

    /** The second leaves the first as late as it can, though the first cuts differ elsewhere too. */
    private static void secondCut() {
        B.anew();
        B.tongue("sounds ab;word ab use 1 kind 0;word a use 1 kind 0;word b use 1 kind 0;word bab use 1 kind 0;");
        B.line("abab");
        int[][] due = {{0, 0}, {0, 1, 2}};
        for (int which = 0; which < 2; which++) {
            B.due("cut(" + which + ", NONE)", B.x.cut(which, -1), due[which].length);
            for (int k = 0; k < due[which].length; k++) {
                B.due("cut(" + which + ", " + k + ")", B.x.cut(which, k), due[which][k]);
            }
        }
        B.due("cuts(0)", B.x.cuts(0), 5);
        // what never stands behind, and what can't be last
        B.tongue("sounds ab;never 0 0;last 1;word ab use 1 kind 0;word a use 1 kind 0;word b use 1 kind 1;"
                + "word bab use 1 kind 0;");
        B.line("abab");
        B.due("a b ab alone", B.x.cuts(0), 1);
        B.due("a b ab alone", B.x.cut(0, -1), 3);
        B.due("no second", B.x.cut(1, -1), -1);
        B.line("bab");
        B.due("cuts(0) of bab", B.x.cuts(0), 2);
        B.due("cut(0, 0) of bab", B.x.cut(0, 0), 2);
        B.due("cut(1, 0) of bab", B.x.cut(1, 0), 3);
    }

    private static void mostUseAndHeard() {
        B.anew();
        B.tongue("sounds abc;like b c;word a use 5 kind 0;word b use 5 kind 0;word ab use 9 kind 0;"
                + "word ac use 99 kind 0;word abab use 20 kind 0;");
        B.due("mistakes of nothing", B.x.mistakes(), -1);
        B.line("abab");
        B.due("of most use, of like ones the first", B.x.cut(2, -1), 4);
        B.due("cut(2, 0)", B.x.cut(2, 0), 0);
        B.due("heard without mistakes", B.x.mistakes(), 0);
        B.due("cut(3, NONE)", B.x.cut(3, -1), 4);
        B.line("acab");
        B.due("heard without mistakes", B.x.mistakes(), 0);
        B.due("cut(3, 0)", B.x.cut(3, 0), 3);
        B.due("cut(3, NONE)", B.x.cut(3, -1), 3);
        B.due("cut(2, 0)", B.x.cut(2, 0), 3);
        B.line("cccc");
        B.due("heard with any mistakes", B.x.mistakes(), 4);
        B.due("cut(3, NONE)", B.x.cut(3, -1), 4);
        B.due("cut(3, 3)", B.x.cut(3, 3), 1);
        B.due("no plain cut", B.x.cut(2, -1), -1);
        // the latest tongue counts
        B.tongue("sounds ab;word a use 1 kind 0;");
        B.due("mistakes of nothing", B.x.mistakes(), -1);
    }

    private static void bound() {
        B.anew();
        B.tongue(PLAIN);
        B.due("bound(0)", B.x.bound(0), -3);
        B.due("bound(1)", B.x.bound(1), -3);
        B.line("aaba");
        B.due("bound(0)", B.x.bound(0), -3);
        B.due("bound(1)", B.x.bound(1), 2);
        B.due("bound(2)", B.x.bound(2), 1);
        B.due("bound(3)", B.x.bound(3), 1);
        B.due("bound(4)", B.x.bound(4), 2);
        B.due("bound(5)", B.x.bound(5), -3);
        B.due("bound leaves all as it is", B.x.cuts(0), 2);
        B.line("aca");
        B.due("bound(3): no mistakes", B.x.bound(3), 0);
    }

    private static void unsure() {
        B.anew();
        B.due("unsure(-1)", B.x.unsure(-1), -3);
        B.due("unsure(3)", B.x.unsure(3), -3);
        B.tongue(PLAIN);
        B.due("unsure(0)", B.x.unsure(0), 3);
        B.tongue("sounds ab;word ab use 1 kind 0;word b use 1 kind 0;");
        B.due("sure", B.x.unsure(0), -1);
        B.tongue("sounds ab;last 0;last 1;word a use 1 kind 0;word ab use 1 kind 1;word ba use 1 kind 0;");
        B.due("no sentence at all", B.x.unsure(0), -1);
        // both go on alike behind what they differ in
        B.tongue("sounds abc;last 0;last 1;word a use 1 kind 0;word ab use 1 kind 1;word b use 1 kind 0;"
                + "word ca use 1 kind 2;");
        B.due("they end alike", B.x.unsure(0), 4);
        B.due("unsureAt(2)", B.x.unsureAt(2), 2);
        // the first to differ may stand behind nothing, all the same
        B.tongue("sounds ab;never 0 0;never 0 1;never 1 0;never 1 1;word a use 1 kind 0;word b use 1 kind 1;"
                + "word ab use 1 kind 0;");
        B.due("nothing stands behind anything", B.x.unsure(0), -1);
    }

    private static void unsureByMistakes() {
        B.anew();
        B.tongue("sounds abc;like a b;like b c;word a use 1 kind 0;word c use 1 kind 0;");
        B.due("a and c, no mistakes", B.x.unsure(0), -1);
        B.due("a and c, both taken for b", B.x.unsure(1), 1);
        B.tongue("sounds abcd;like a b;like c d;word ac use 1 kind 0;word bd use 1 kind 0;");
        B.due("unsure(0)", B.x.unsure(0), -1);
        B.due("one mistake in each", B.x.unsure(1), 2);
        B.tongue("sounds ab;like a b;word aaa use 1 kind 0;word bbb use 1 kind 0;");
        B.due("three to mistake, one each", B.x.unsure(1), -1);
        B.due("three to mistake, two each", B.x.unsure(2), 3);
        B.due("bears", B.x.bears(), 1);
        B.tongue("sounds ab;like a b;word aaaaa use 1 kind 0;word bbbbb use 1 kind 0;");
        B.due("five to mistake", B.x.unsure(2), -1);
        B.due("bears", B.x.bears(), 2);
    }

    private static void unsureAt() {
        B.anew();
        B.due("unsureAt(0), sure", B.x.unsureAt(0), -1);
        // "ba" and "ab" both have two cuts: the first by sounds
        B.tongue("sounds ab;word ba use 1 kind 0;word b use 1 kind 0;word a use 1 kind 0;word ab use 1 kind 0;");
        B.due("unsure(0)", B.x.unsure(0), 2);
        B.due("unsureAt(0)", B.x.unsureAt(0), 0);
        B.due("unsureAt(1)", B.x.unsureAt(1), 1);
        B.due("unsureAt(2)", B.x.unsureAt(2), -1);
        B.due("unsureAt(-1)", B.x.unsureAt(-1), -1);
        B.tongue("sounds ba;word ba use 1 kind 0;word b use 1 kind 0;word a use 1 kind 0;word ab use 1 kind 0;");
        B.due("sounds by their numbers", B.x.sound(B.x.unsureAt(0), 0), 'b');
    }

    /** What is kept of one answer must not tell in another one. */
    private static void unsureBehindOthers() {
        B.anew();
        B.tongue("sounds abc;word a use 1 kind 0;word bb use 1 kind 0;");
        B.due("added first", B.x.added(0, 0), 3);
        B.due("sure without it", B.x.unsureAt(0), -1);
        B.tongue(PLAIN);
        B.due("mended first", B.x.mended(1), 1);
        B.due("unsureAt(0)", B.x.unsureAt(0), 0);
        B.due("changed then", B.x.changed(2), 2);
        B.due("unsure(0)", B.x.unsure(0), 3);
        B.tongue("sounds abc;word c use 1 kind 0;word cb use 1 kind 0;word bc use 1 kind 0;");
        B.due("changed first", B.x.changed(2), 0);
        B.due("unsureAt(1) of another tongue", B.x.unsureAt(1), 1);
        B.due("unsureAt(2) of another tongue", B.x.unsureAt(2), 2);
        B.due("paused then", B.x.paused(0), 1);
        B.due("unsure(0)", B.x.unsure(0), 3);
    }

    private static void bears() {
        B.anew();
        B.due("bears without a tongue", B.x.bears(), 2);
        B.tongue(PLAIN);
        B.due("bears nothing", B.x.bears(), -1);
        B.tongue("sounds ab;like a b;word a use 1 kind 0;word b use 1 kind 0;");
        B.due("bears 0", B.x.bears(), 0);
        B.tongue("sounds ab;word a use 1 kind 0;word b use 1 kind 0;");
        B.due("bears 2", B.x.bears(), 2);
    }

    private static void added() {
        B.anew();
        B.due("added(-1, 0)", B.x.added(-1, 0), -2);
        B.due("added(4, 0)", B.x.added(4, 0), -2);
        B.due("added(0, 2)", B.x.added(0, 2), -2);
        B.due("added(0, 9)", B.x.added(0, 9), -2);
        B.due("added(0, 13)", B.x.added(0, 13), -2);
        B.due("added(0, -1)", B.x.added(0, -1), -2);
        B.due("added without sounds", B.x.added(0, 10), -1);
        B.tongue("sounds ab;");
        B.due("without words the first", B.x.added(2, 0), 1);
        B.due("without words no cost", B.x.added(2, 1), -1);
        B.due("without words the first", B.x.added(2, 10), 0);
        B.due("not so many", B.x.added(2, 11), -1);
        B.tongue("sounds ab;open b;shape so;shape ooo;");
        B.due("of a shape that is told", B.x.added(0, 0), 2);
        B.due("sound 0", B.x.added(0, 10), 0);
        B.due("sound 1", B.x.added(0, 11), 1);
        B.tongue("sounds ab;open b;shape oooo;");
        B.due("no row of such a shape", B.x.added(0, 0), -1);
        // bbb is most unlike a; aa, aaa, .. would not be sure
        B.tongue("sounds ab;word a use 1 kind 0;");
        B.due("most unlike", B.x.added(0, 1), 6);
        B.due("bbb", B.x.added(0, 0), 3);
        B.due("bbb", B.x.added(0, 10), 1);
        B.due("bbb", B.x.added(0, 12), 1);
        B.tongue("sounds ab;word a use 1 kind 0;word b use 1 kind 0;");
        B.due("all is said already", B.x.added(0, 0), -1);
        // the tongue is unsure already: none helps
        B.tongue(PLAIN);
        B.due("unsure already", B.x.added(1, 1), -1);
        // a kind that never stands behind, nor ahead of, anything
        B.tongue("sounds ab;never 0 0;word a use 1 kind 0;word b use 1 kind 0;");
        B.due("longer sentences are free", B.x.added(0, 0), 3);
        B.due("longer sentences are free", B.x.added(0, 1), 4);
        B.due("aaa", B.x.added(0, 12), 0);
    }

    private static void adds() {
        B.anew();
        B.tongue("sounds abc;like a b;word a use 1 kind 0;word bb use 1 kind 1;");
        B.due("adds c", B.adds(0, "c", 0), 1);
        B.due("adds c, 2", B.adds(0, "c", 2), 0);
        B.due("adds abb", B.adds(0, "abb", 0), 0);
        B.due("adds b", B.adds(3, "b", 0), 0);
        B.due("adds cccccc", B.adds(3, "cccccc", 0), 1);
        B.due("adds ccccccc", B.adds(3, "ccccccc", 0), -9);
        B.due("the tape is empty", B.x.count(5), 0);
        B.due("adds no sounds", B.adds(0, "cd", 0), -9);
        B.due("adds a word that is there", B.adds(0, "bb", 0), -9);
        B.feed("c");
        B.due("adds(4, 1, 3) tells the kind first", B.x.adds(4, 1, 3), -2);
        B.due("adds(-1, 1, 0)", B.x.adds(-1, 1, 0), -2);
        B.due("adds(0, 1, 3)", B.x.adds(0, 1, 3), -3);
        B.due("adds(0, 1, -1)", B.x.adds(0, 1, -1), -3);
        B.due("adds(0, 21, 0)", B.x.adds(0, 21, 0), -3);
        B.due("adds(0, -1, 0)", B.x.adds(0, -1, 0), -3);
        B.due("the tape stays", B.x.count(5), 20);
        B.due("adds(0, 0, 0)", B.x.adds(0, 0, 0), -9);
        B.due("the tape is empty", B.x.count(5), 0);
        B.due("nothing was added", B.x.count(2), 2);
        B.due("sure all the same", B.x.unsure(0), -1);
    }

    private static void mended() {
        B.anew();
        B.due("mended(-1)", B.x.mended(-1), -2);
        B.due("mended(2)", B.x.mended(2), -2);
        B.due("nothing to mend", B.x.mended(0), 0);
        B.tongue(PLAIN);
        B.due("mended(0)", B.x.mended(0), 1);
        B.due("mended(1)", B.x.mended(1), 1);
        B.tongue("sounds ab;word a use 1 kind 0;word b use 1 kind 0;word ab use 1 kind 0;word ba use 1 kind 0;");
        B.due("two of four", B.x.mended(0), 2);
        B.due("the least as bits", B.x.mended(1), 3);
        B.tongue("sounds a" + "b;word a use 1 kind 0;word aa use 1 kind 0;word aaa use 1 kind 0;"
                + "word aaaa use 1 kind 0;word aaaaa use 1 kind 0;");
        B.due("four of five would do", B.x.mended(0), -1);
        B.due("four of five would do", B.x.mended(1), -1);
        B.tongue("sounds ab;word aa use 1 kind 0;word aaa use 1 kind 0;word aaaa use 1 kind 0;"
                + "word aaaaa use 1 kind 0;");
        B.due("three of four", B.x.mended(0), 3);
        B.due("three of four", B.x.mended(1), 7);
    }

    private static void changed() {
        B.anew();
        B.due("changed(-1)", B.x.changed(-1), -2);
        B.due("changed(3)", B.x.changed(3), -2);
        B.due("no word to change", B.x.changed(0), -1);
        B.tongue(PLAIN);
        B.due("changed(0)", B.x.changed(0), 0);
        B.due("changed(1)", B.x.changed(1), 0);
        B.due("changed(2)", B.x.changed(2), 2);
        // a tongue that is sure may be changed, too: a can't become b, which is there; it may become c
        B.tongue("sounds abc;word a use 1 kind 0;word b use 1 kind 0;");
        B.due("changed(2)", B.x.changed(2), 2);
        B.tongue("sounds ab;word a use 1 kind 0;word b use 1 kind 0;");
        B.due("all others are there", B.x.changed(2), -1);
        // the first word that can is the third, at its second place
        B.tongue("sounds ab;word aab use 1 kind 0;word b use 1 kind 0;word ba use 1 kind 0;word abb use 1 kind 0;");
        B.due("changed(0)", B.x.changed(0), -1);
        B.tongue("sounds ab;word b use 1 kind 0;word bab use 1 kind 0;word ab use 1 kind 0;");
        B.due("changed(0)", B.x.changed(0), 1);
        B.due("changed(1)", B.x.changed(1), 0);
        B.due("changed(2)", B.x.changed(2), 0);
    }

    private static void paused() {
        B.anew();
        B.due("paused(-1)", B.x.paused(-1), -2);
        B.due("paused(2)", B.x.paused(2), -2);
        B.due("no stop needed", B.x.paused(1), 0);
        B.tongue(PLAIN);
        B.due("paused(0)", B.x.paused(0), 1);
        B.due("paused(1)", B.x.paused(1), 1);
        B.tongue("sounds ab;word a use 1 kind 3;word ab use 1 kind 2;word b use 1 kind 1;");
        B.due("one kind does", B.x.paused(0), 1);
        B.due("the least as bits", B.x.paused(1), 2);
        // a stop is heard behind the last word, too
        B.tongue("sounds ab;word a use 1 kind 0;word b use 1 kind 0;word ab use 1 kind 3;"
                + "word ba use 1 kind 3;never 3 0;never 0 3;never 3 3;");
        B.due("a stop at the end", B.x.paused(1), 1);
        B.tongue("sounds ab;word a use 1 kind 0;word aa use 1 kind 1;word aaa use 1 kind 2;word aaaa use 1 kind 3;");
        B.due("all but one", B.x.paused(0), 3);
        B.due("all but one", B.x.paused(1), 7);
        B.tongue("sounds abcd;word a use 1 kind 0;word aa use 1 kind 0;word b use 1 kind 1;word bb use 1 kind 1;"
                + "word c use 1 kind 2;word cc use 1 kind 2;word d use 1 kind 3;word dd use 1 kind 3;");
        B.due("all four", B.x.paused(0), 4);
        B.due("all four", B.x.paused(1), 15);
    }

    private static void begun() {
        B.anew();
        B.due("begun(-1)", B.x.begun(-1), -2);
        B.due("begun(2)", B.x.begun(2), -2);
        B.tongue("sounds ab;word bb use 1 kind 0;word aba use 1 kind 0;word bba use 1 kind 0;word ab use 1 kind 0;"
                + "word bbab use 1 kind 0;");
        B.due("begun(0)", B.x.begun(0), 0);
        B.due("begun(1)", B.x.begun(1), 2);
        B.tongue("sounds ab;word aba use 1 kind 0;word bba use 1 kind 0;word ab use 1 kind 0;");
        B.due("begun(0)", B.x.begun(0), 2);
        B.due("begun(1)", B.x.begun(1), 0);
        B.tongue("sounds ab;word ab use 1 kind 0;word ba use 1 kind 0;");
        B.due("begun(0)", B.x.begun(0), -1);
        B.due("begun(1)", B.x.begun(1), -1);
    }

    private static void fitted() {
        B.anew();
        B.tongue("sounds abcd;open ab;like b c;shape so;shape os;shape oss;");
        B.due("ab: b is like c, which is shut", B.fitted("ab", 0), 1);
        B.due("ab: os", B.fitted("ab", 1), 1);
        B.due("da", B.fitted("da", 0), 0);
        B.due("da: so", B.fitted("da", 1), 0);
        B.due("ad", B.fitted("ad", 1), 1);
        B.due("acd", B.fitted("acd", 0), 0);
        B.due("acd: oss", B.fitted("acd", 1), 2);
        B.due("nothing", B.fitted("", 0), 4);
        B.due("nothing: the first", B.fitted("", 1), 0);
        B.due("aaaaaaaaaaaa", B.fitted("aaaaaaaaaaaa", 0), 22);
        B.due("aaaaaaaaaaaaa", B.fitted("aaaaaaaaaaaaa", 0), -9);
        B.due("no sounds", B.fitted("ax", 0), -9);
        B.due("the tape is empty", B.x.count(5), 0);
        B.feed("ab");
        B.due("fitted(99, 2) tells what first", B.x.fitted(99, 2), -2);
        B.due("fitted(2, -1)", B.x.fitted(2, -1), -2);
        B.due("fitted(21, 0)", B.x.fitted(21, 0), -3);
        B.due("fitted(-1, 0)", B.x.fitted(-1, 0), -3);
        B.due("the tape stays", B.x.count(5), 20);
        B.x.spelt(0);
        B.tongue("sounds ab;");
        B.due("no shape", B.fitted("ab", 0), -1);
        B.due("no shape", B.fitted("ab", 1), -1);
        B.due("no shape, no sounds", B.fitted("ac", 1), -9);
        B.due("the tape is empty", B.x.count(5), 0);
    }

    private static void talkAndCode() {
        B.anew();
        B.due("talk", B.x.talk(), 0);
        for (int n = 2; n <= 8; n++) {
            B.due("code(" + n + ")", B.x.code(n), 0);
        }
        B.tongue("sounds abcdefg;word abc use 9 kind 0;");
        B.due("talk", B.x.talk(), 27);
        B.due("one word alone", B.x.code(2), 9);
        B.tongue("sounds abcdefg;word a use 5 kind 0;word bb use 3 kind 0;word c use 2 kind 0;word d use 1 kind 0;"
                + "word e use 1 kind 0;word f use 0 kind 0;");
        B.due("talk", B.x.talk(), 15);
        B.due("code(2)", B.x.code(2), 26);
        B.due("code(3)", B.x.code(3), 17);
        B.due("code(4)", B.x.code(4), 14);
        B.due("code(5)", B.x.code(5), 13);
        B.due("code(6)", B.x.code(6), 12);
        B.due("code(8)", B.x.code(8), 12);
        B.due("code(1)", B.x.code(1), -3);
        B.due("code(9)", B.x.code(9), -3);
        B.due("code(-1)", B.x.code(-1), -3);
    }

    private static void said() {
        B.anew();
        B.tongue("sounds ab;word a use 1 kind 0;word b use 1 kind 0;");
        long power = 1;
        for (int n = 0; n <= 60; n++) {
            B.due("said(" + n + ")", B.x.said(n), n == 0 ? 0 : power);
            power = power * 2 % 1000000007L;
            if (n == 0) {
                power = 2;
            }
        }
        B.due("said(-1)", B.x.said(-1), -3);
        B.due("said(61)", B.x.said(61), -3);
        B.tongue("sounds ab;never 0 0;last 1;word a use 1 kind 0;word bb use 1 kind 1;");
        B.due("said(3): bb a", B.x.said(3), 1);
        B.due("said(4): a bb a", B.x.said(4), 1);
        B.due("said(2)", B.x.said(2), 0);
    }

    private static void richest() {
        B.anew();
        B.due("richest(0, 0)", B.x.richest(0, 0), -3);
        B.due("richest(61, 0)", B.x.richest(61, 0), -3);
        B.due("richest(1, -2)", B.x.richest(1, -2), -3);
        B.due("richest(60, 0)", B.x.richest(60, 0), -1);
        B.tongue("sounds ab;word ab use 4 kind 0;word a use 2 kind 0;word b use 2 kind 0;word bbb use 9 kind 0;");
        B.due("richest(2, NONE)", B.x.richest(2, -1), 4);
        B.due("the first by words", B.x.richest(2, 0), 0);
        B.due("not so many", B.x.richest(2, 1), -1);
        B.due("richest(60, NONE)", B.x.richest(60, -1), 180);
        B.due("richest(60, 19)", B.x.richest(60, 19), 3);
        B.due("richest(60, 20)", B.x.richest(60, 20), -1);
        B.due("richest(4, 0)", B.x.richest(4, 0), 1);
        B.due("richest(4, 1)", B.x.richest(4, 1), 3);
        B.tongue("sounds ab;last 0;word a use 9 kind 0;word b use 0 kind 1;");
        B.due("the last can be last", B.x.richest(3, -1), 18);
        B.due("the last can be last", B.x.richest(3, 2), 1);
        B.due("uses of 0", B.x.richest(1, -1), 0);
    }

    private static void endlessAndLongest() {
        B.anew();
        B.due("endless", B.x.endless(), 0);
        B.due("longest", B.x.longest(), -1);
        B.tongue("sounds ab;never 0 0;never 1 1;never 1 0;word a use 1 kind 0;word aaa use 1 kind 0;"
                + "word bb use 1 kind 1;");
        B.due("endless", B.x.endless(), 0);
        B.due("longest", B.x.longest(), 5);
        B.tongue("sounds ab;never 0 0;never 1 1;word a use 1 kind 0;word bb use 1 kind 1;last 0;last 1;");
        B.due("no end can be", B.x.endless(), 0);
        B.due("no end can be", B.x.longest(), -1);
        B.tongue("sounds ab;never 0 0;never 1 1;word a use 1 kind 0;word bb use 1 kind 1;last 0;");
        B.due("round two kinds", B.x.endless(), 1);
        B.due("round two kinds", B.x.longest(), -1);
        // round kind 0, but from there to no end
        B.tongue("sounds ab;last 0;never 0 1;never 1 1;word a use 1 kind 0;word bbbb use 1 kind 1;");
        B.due("a round without an end", B.x.endless(), 0);
        B.due("a round without an end", B.x.longest(), 4);
        // all four kinds in a row
        B.tongue("sounds ab;never 0 0;never 1 1;never 2 2;never 3 3;never 1 0;never 2 0;never 3 0;never 2 1;"
                + "never 3 1;never 3 2;word a use 1 kind 0;word aa use 1 kind 1;word ab use 1 kind 2;"
                + "word bba use 1 kind 3;");
        B.due("four in a row", B.x.endless(), 0);
        B.due("four in a row", B.x.longest(), 8);
    }

    private static void noise() {
        B.anew();
        B.tongue("sounds abcd;like a b;like a c;word abcd use 1 kind 0;word d use 1 kind 0;");
        B.due("noise(4, ..)", B.x.noise(4, 0, 0, 0), -2);
        B.due("noise(-1, ..)", B.x.noise(-1, 0, 0, 0), -2);
        B.due("what ahead of the row's lack", B.x.noise(0, 0, 0, 2), -2);
        B.due("what 9", B.x.noise(0, 0, 0, 9), -2);
        B.due("what 50", B.x.noise(0, 0, 0, 50), -2);
        B.due("what -1", B.x.noise(0, 0, 0, -1), -2);
        B.due("missing ahead of hundredths", B.x.noise(0, 0, 101, 0), -6);
        B.row(0, 0, 1);
        B.due("hundredths 101", B.x.noise(0, 0, 101, 0), -3);
        B.due("hundredths -1", B.x.noise(0, 0, -1, 0), -3);
        B.row(1, 0, 2);
        B.due("no sentence", B.x.noise(1, 0, 50, 0), -3);
        B.row(1, 0, 0, 0, 0, 0, 0, 0, 0, 0, 0, 1);
        B.due("41 sounds", B.x.noise(1, 0, 50, 0), -3);
        B.row(1, 0, 0, 0, 0, 0, 0, 0, 0, 0, 0);
        B.due("40 sounds, no noise", B.x.noise(1, 0, 0, 0), 0);
        B.due("40 sounds, no noise", B.x.noise(1, 0, 0, 1), 1);
        B.due("40 sounds, no noise", B.x.noise(1, 0, 0, 49), 3);
        for (int seed = -3; seed <= 3; seed++) {
            noised(seed * 7654321, 60);
        }
        B.due("the line stays", B.x.count(4), 0);
        B.due("not so many", B.x.noise(0, 1, 50, 15), -1);
    }

    /** The draws told anew, by the document's words, for "abcdd" with a like b and c. */
    private static void noised(int seed, int hundredths) {
        int x = seed;
        int[] said = {0, 1, 2, 3, 3};
        int[][] like = {{1, 2}, {0}, {0}, {}};
        int made = 0;
        for (int i = 0; i < said.length; i++) {
            int sound = said[i];
            if (like[said[i]].length > 0) {
                x = 1103515245 * x + 12345;
                if ((x >>> 16) % 100 < hundredths) {
                    x = 1103515245 * x + 12345;
                    sound = like[said[i]][(x >>> 16) % like[said[i]].length];
                    made++;
                }
            }
            B.due("noise's sound " + i, B.x.noise(0, seed, hundredths, 10 + i), sound);
        }
        B.due("noise's mistakes", B.x.noise(0, seed, hundredths, 0), made);
        // no other sentence has five sounds with d last alone that "abcd d" could be taken for
        B.due("noise is heard through", B.x.noise(0, seed, hundredths, 1), 1);
    }

    private static void asked() {
        B.anew();
        B.tongue("sounds ab;like a b;word a use 1 kind 0;word b use 1 kind 0;");
        B.due("asked(4, ..)", B.x.asked(4, 0, 0), -2);
        B.due("asked(0, ..)", B.x.asked(0, 0, 200), -6);
        B.row(0, 0, 1);
        B.due("hundredths", B.x.asked(0, 0, 101), -3);
        B.due("hundredths", B.x.asked(0, 0, -1), -3);
        B.due("without noise", B.x.asked(0, 5, 0), 1);
        B.due("always mistaken", B.x.asked(0, 5, 100), -1);
        B.row(1, 0, 7);
        B.due("no sentence", B.x.asked(1, 5, 10), -3);
        boolean[] seen = new boolean[10];
        for (int seed = 0; seed < 300; seed++) {
            int times = times(seed);
            B.due("asked with seed " + seed, B.x.asked(0, seed, 70), times);
            seen[Math.max(0, times)] = true;
        }
        B.due("one was asked for 9 times", seen[9] ? 1 : 0, 1);
        B.due("one was never heard", seen[0] ? 1 : 0, 1);
    }

    /** How often "ab" is said till both its sounds come as they are, seven of ten being mistaken. */
    private static int times(int seed) {
        int x = seed;
        for (int time = 1; time <= 9; time++) {
            boolean mistaken = false;
            for (int i = 0; i < 2; i++) {
                x = 1103515245 * x + 12345;
                if ((x >>> 16) % 100 < 70) {
                    x = 1103515245 * x + 12345;
                    mistaken = true;
                }
            }
            if (!mistaken) {
                return time;
            }
        }
        return -1;
    }

    private static void treeAndLimb() {
        B.anew();
        B.due("tree", B.x.tree(), 1);
        B.due("limb(0, 7)", B.x.limb(0, 7), -3);
        B.due("limb(13, 0)", B.x.limb(13, 0), -3);
        B.due("limb(1, 7)", B.x.limb(1, 7), -2);
        B.due("limb(1, 16)", B.x.limb(1, 16), -2);
        B.due("limb(1, -1)", B.x.limb(1, -1), -2);
        B.due("limb(1, 1)", B.x.limb(1, 1), -1);
        B.tongue("sounds abc;word cba use 1 kind 0;word bcb use 1 kind 0;word bca use 1 kind 0;word b use 1 kind 0;"
                + "word cb use 1 kind 0;word aa use 1 kind 0;");
        B.due("tree", B.x.tree(), 10);
        int[][] due = {{3, 1, 1, 2, 0}, {2, 2, 1, 2, -1}, {1, 3, 1, -1, -1}, {0, 6, -1, -1, -1}};
        for (int k = 1; k <= 4; k++) {
            int[] want = due[k - 1];
            B.due("limb(" + k + ", 0)", B.x.limb(k, 0), want[0]);
            B.due("limb(" + k + ", 1)", B.x.limb(k, 1), want[1]);
            B.due("limb(" + k + ", 10)", B.x.limb(k, 10), want[2]);
            B.due("limb(" + k + ", 11)", B.x.limb(k, 11), want[3]);
            B.due("limb(" + k + ", 12)", B.x.limb(k, 12), want[4]);
        }
        B.due("limb(6, 0)", B.x.limb(6, 0), 0);
        B.due("limb(7, 0)", B.x.limb(7, 0), -1);
        B.due("limb(7, 10)", B.x.limb(7, 10), -1);
    }

    private static void numbersAndWrite() {
        B.anew();
        B.due("numbers(4, 0, 0)", B.x.numbers(4, 0, 0), -2);
        B.due("numbers(-1, 0, 0)", B.x.numbers(-1, 0, 0), -2);
        B.due("numbers(0, 4, 41) tells the sort first", B.x.numbers(0, 4, 41), -2);
        B.due("numbers(0, -1, 0)", B.x.numbers(0, -1, 0), -2);
        B.due("numbers(0, 0, 41)", B.x.numbers(0, 0, 41), -3);
        B.due("still missing", B.x.write(0, 0, 1), -6);
        B.due("write(4, 0, 1)", B.x.write(4, 0, 1), -2);
        B.due("write(-1, 0, 1)", B.x.write(-1, 0, 1), -2);
        long v = 0x123456789abcdef0L;
        long[] cut = {(byte) v, (short) v, (int) v, v};
        for (int sort = 0; sort < 4; sort++) {
            B.due("numbers", B.x.numbers(sort, sort, 40), 0);
            B.due("write sort " + sort, B.x.write(sort, 39, v), cut[sort]);
            B.due("write(sort, 40, 0)", B.x.write(sort, 40, 0), -7);
            B.due("write(sort, -1, 0)", B.x.write(sort, -1, 0), -7);
        }
        B.due("write 128 in 8 bits", B.x.write(0, 0, 128), -128);
        B.due("write -1 in 8 bits", B.x.write(0, 0, -1), -1);
        B.due("write 32768 in 16 bits", B.x.write(1, 0, 32768), -32768);
        B.due("write 2^31 in 32 bits", B.x.write(2, 0, 1L << 31), -(1L << 31));
        B.due("write -2^63 in 64 bits", B.x.write(3, 0, Long.MIN_VALUE), Long.MIN_VALUE);
        B.tongue("sounds ab;word a use 1 kind 0;word b use 1 kind 0;");
        B.due("numbers(0, 0, 2)", B.x.numbers(0, 0, 2), 0);
        B.x.write(0, 0, 257);
        B.x.write(0, 1, 256);
        B.due("257 in 8 bits is 1", B.x.judge(0, 1), 1);
        B.due("numbers(0, 0, -1)", B.x.numbers(0, 0, -1), -3);
        B.due("the row stays", B.x.judge(0, 2), 2);
        B.due("in place of another one", B.x.numbers(0, 2, 3), 0);
        B.due("all 0", B.x.judge(0, 3), 3);
        B.x.say(0);
        B.due("all 0", B.x.at(0), 0);
        B.due("no numbers", B.x.numbers(0, 2, 0), 0);
        B.due("no numbers", B.x.write(0, 0, 0), -7);
    }

    private static void copy() {
        B.anew();
        B.tongue(PLAIN);
        B.due("copy(4, 0)", B.x.copy(4, 0), -2);
        B.due("copy(-1, 0)", B.x.copy(-1, 0), -2);
        B.due("copy(0, 4)", B.x.copy(0, 4), -2);
        B.due("no cut ahead of a missing row", B.x.copy(0, 0), -5);
        B.line("aba");
        B.due("copy(0, 0)", B.x.copy(0, 0), -6);
        B.row(0, 2);
        B.due("too few places", B.x.copy(0, 0), -7);
        B.due("nothing comes", B.x.judge(0, 2), 2);
        B.row(0, 1, 1, 1);
        B.due("copy(0, 0)", B.x.copy(0, 0), 2);
        B.due("the third place stays: a ba ab", B.x.judge(0, 3), 10);
        B.due("copy(1, 0)", B.x.copy(1, 0), 2);
        B.due("ab a ab", B.x.judge(0, 3), 11);
        B.line("bca");
        B.due("copy(2, 0)", B.x.copy(2, 0), -5);
        B.line("aca");
        B.due("copy(3, 0)", B.x.copy(3, 0), 2);
        B.due("ab a ab", B.x.judge(0, 3), 11);
    }

    private static void images() {
        B.anew();
        B.due("image(2)", B.x.image(2), -2);
        B.due("image(-1)", B.x.image(-1), -2);
        B.due("restore(2)", B.x.restore(2), -2);
        B.due("restore(-1)", B.x.restore(-1), -2);
        B.due("restore(1)", B.x.restore(1), -5);
        B.due("image(1) of nothing", B.x.image(1), 0);
        B.tongue("sounds abc;open a;like b c;never 1 2;last 3;shape os;word a use 5 kind 0;word ab use 3 kind 0;"
                + "word ba use 2 kind 1;");
        B.line("aba");
        B.due("image(0)", B.x.image(0), 0);
        B.row(0, 1);
        B.due("cut(1, 0)", B.x.cut(1, 0), 1);
        B.due("unsure(0)", B.x.unsure(0), 3);
        B.tongue("sounds xy;word y use 1 kind 3;word xx use 7 kind 2;");
        B.line("yy");
        B.due("unsure(0)", B.x.unsure(0), -1);
        B.due("cut(1, 0)", B.x.cut(1, 0), -1);
        B.feed("zz");
        B.due("restore(0)", B.x.restore(0), 0);
        B.due("the tape stays", B.x.count(5), 20);
        B.due("lines", B.x.count(0), 9);
        B.due("sounds", B.x.count(1), 3);
        B.due("words", B.x.count(2), 3);
        B.due("shapes", B.x.count(3), 1);
        B.due("line", B.x.count(4), 3);
        B.due("letter", B.x.sound(2, 0), 'c');
        B.due("open", B.x.sound(0, 1), 1);
        B.due("like", B.x.sound(2, 2), 2);
        B.due("behind", B.x.behind(1), 11);
        B.due("ends", B.x.ends(3), 0);
        B.due("shape", B.x.shape(0, 1), 0);
        B.due("shape", B.x.shape(0, -1), 2);
        B.due("use", B.x.word(1, 1), 3);
        B.due("kind", B.x.word(2, 2), 1);
        B.due("sound 1", B.x.word(2, 11), 0);
        B.due("unsure(0)", B.x.unsure(0), 3);
        B.due("unsureAt(0)", B.x.unsureAt(0), 0);
        B.due("cut(1, 0)", B.x.cut(1, 0), 1);
        B.due("cut(1, 1)", B.x.cut(1, 1), 0);
        B.due("rows stay", B.x.judge(0, 3), 3);
        B.due("restore(1)", B.x.restore(1), 0);
        B.due("no sounds", B.x.count(1), 0);
        B.due("no line", B.x.count(4), 0);
        B.due("nothing is unsure", B.x.unsure(0), -1);
        B.due("restore(0) again", B.x.restore(0), 0);
        B.due("words again", B.x.count(2), 3);
    }

    private static void count() {
        B.anew();
        B.tongue("sounds ab;never 1 1;shape o;shape s;word a use 1 kind 0;");
        B.line("ab");
        B.feed("x");
        int[] due = {5, 2, 1, 2, 2, 20};
        for (int what = 0; what <= 5; what++) {
            B.due("count(" + what + ")", B.x.count(what), due[what]);
        }
        B.due("count(6)", B.x.count(6), -1);
        B.due("count(-1)", B.x.count(-1), -1);
    }
}
