/** Edges of promises 1 to 12: THE TAPE, THE TONGUE and its FAULTS, SOUNDS, WORDS, SHAPES, UNLIKE. */
final class TongueEdges extends Edges {
    private static final int MIN = Integer.MIN_VALUE;
    private static final int MAX = Integer.MAX_VALUE;
    private static final String[] TWELVE = {"a", "b", "aa", "ab", "ba", "bb", "aaa", "aab", "aba", "abb", "baa", "bab"};

    TongueEdges(Quotes quotes) {
        super(quotes);
    }

    @Override
    void all() {
        newObject();
        feed();
        tongue();
        tongueRefused();
        lines();
        soundsLine();
        openAndLike();
        wordLine();
        neverAndLast();
        shapeLine();
        tokens();
        faultsInOrder();
        faultsOfTokens();
        faultsOfValues();
        faultsOfOneMore();
        fault();
        sound();
        word();
        shape();
        behindAndEnds();
        spelt();
        unlike();
        near();
    }

    /** Reads a text in which ^ stands ahead of the faulty TOKEN; what was told ahead of it stays. */
    private void faulty(int kind, String marked) {
        int place = marked.indexOf('^');
        String text = marked.replace("^", "");
        anew();
        b.tongue("sounds pq;word p use 1 kind 0;");
        b.line("qp");
        due(-30 - kind, b.tongue(text));
        due(kind, x.fault(0));
        due(place, x.fault(1));
        due(2, x.count(0));
        due(1, x.count(2));
        due('p', x.sound(0, 0));
        due(2, x.count(4));
        due(1, x.at(0));
        due(0, x.count(5));
    }

    /** Reads a text without a FAULT. */
    private void good(int lines, String text) {
        anew();
        due(lines, b.tongue(text));
        due(0, x.fault(0));
        due(-1, x.fault(1));
        due(lines, x.count(0));
    }

    private static String words(int n) {
        StringBuilder text = new StringBuilder("sounds ab;");
        for (int w = 0; w < n; w++) {
            text.append("word ").append(TWELVE[w]).append(" use ").append(w).append(" kind 0;");
        }
        return text.toString();
    }

    private void newObject() {
        edge(1, "No TONGUE");
        for (int what = 0; what <= 3; what++) {
            due(0, x.count(what));
        }
        due(-2, x.sound(0, 0));
        due(-2, x.word(0, 0));
        due(-2, x.shape(0, -1));
        for (int kind = 0; kind < 4; kind++) {
            due(15, x.behind(kind));
            due(1, x.ends(kind));
        }
        edge(1, "an empty LINE");
        due(0, x.count(4));
        due(-1, x.at(0));
        due(0, x.cuts(0));
        due(-1, x.cut(3, -1));
        edge(1, "(without one: no SOUNDS)");
        due(0, x.count(1));
        due(-9, b.line("a"));
        due(-1, b.spelt("a"));
        due(-9, b.adds(0, "a", 0));
        due(0, b.line(""));
    }

    private void feed() {
        edge(2, "Twenty bytes come behind those on THE TAPE");
        b.feed("sounds ab;word ab us");
        b.feed("e 7 kind 1;");
        due(2, x.tongue(31));
        due(7, x.word(0, 1));
        edge(2, "the highest of each int first");
        b.tongue("sounds abcdefgh;");
        x.feed(0x61626364, 0x65666768, 0x68676665, 0x64636261, 0x61636567);
        due(20, x.line(20));
        int[] came = {0, 1, 2, 3, 4, 5, 6, 7, 7, 6, 5, 4, 3, 2, 1, 0, 0, 2, 4, 6};
        for (int i = 0; i < 20; i++) {
            due(came[i], x.at(i));
        }
        // bytes above 127 are no letters
        x.feed(0xe1e1e1e1, 0, 0, 0, 0);
        due(-9, x.line(1));
        x.feed(0xe1e1e1e1, 0, 0, 0, 0);
        due(-31, x.tongue(1));
        edge(2, "how many it has");
        for (int i = 1; i <= 25; i++) {
            due(20 * i, x.feed(i, i, i, i, i));
            due(20 * i, x.count(5));
        }
        due(-1, x.spelt(0));
        due(20, x.feed(0, 0, 0, 0, 0));
        edge(2, "-5: it would have more than 500");
        due(20, x.feed(0, 0, 0, 0, 0));
        refused(-5, TongueEdges::fill, y -> y.feed(0x61616161, 0, 0, 0, 0));
        fill(b);
        due(500, x.count(5));
        due(-5, x.feed(1, 2, 3, 4, 5));
        due(-5, x.feed(1, 2, 3, 4, 5));
        due(-1, x.spelt(500));
        due(20, x.feed(1, 2, 3, 4, 5));
    }

    private static void fill(Bench b) {
        while (b.x.count(5) < 500) {
            b.feed("cba");
        }
    }

    private void tongue() {
        edge(3, "The first n bytes of THE TAPE");
        b.feed("sounds ab;last 1;never 1 1;");
        due(2, x.tongue(17));
        due(0, x.ends(1));
        due(15, x.behind(1));
        edge(3, "(which is empty then)");
        b.feed("sounds ab;last 1;");
        x.tongue(10);
        due(0, x.count(5));
        due(-3, x.tongue(1));
        due(20, x.feed(0, 0, 0, 0, 0));
        edge(3, "are THE TONGUE");
        b.tongue("sounds abc;open ab;like a b;word a use 1 kind 0;shape o;never 0 0;last 0;");
        due(1, b.tongue("sounds ab;"));
        due(1, x.count(0));
        due(2, x.count(1));
        due(0, x.count(2));
        due(0, x.count(3));
        due(0, x.sound(0, 1));
        due(0, x.sound(0, 2));
        due(15, x.behind(0));
        due(1, x.ends(0));
        due(-2, x.word(0, 0));
        due(-2, x.shape(0, -1));
        due(-2, x.sound(2, 0));
        edge(3, "THE LINE is empty");
        b.tongue("sounds ab;word a use 1 kind 0;");
        b.line("aa");
        due(1, x.cuts(0));
        due(2, x.cut(0, -1));
        b.tongue("sounds ab;word a use 1 kind 0;");
        due(-1, x.cut(0, -1));
        due(0, x.count(4));
        due(-1, x.at(0));
        due(0, x.cuts(0));
        due(-1, x.cut(0, -1));
        due(-3, x.bound(1));
        edge(3, "how many LINES");
        due(0, b.tongue(""));
        due(0, b.tongue(" \n \n"));
        due(1, b.tongue("last 0;"));
        due(71, b.tongue("last 0;".repeat(71)));
        due(71, x.count(0));
    }

    private void tongueRefused() {
        edge(3, "(all stays with a FAULT)");
        // the FAULT of the world behind refused() is 3 at 5, too
        refusedAndRead(-33, told -> {
            told.x.spelt(0);
            told.feed("last 4;");
        }, y -> y.tongue(7));
        b.tongue("sounds ab;word a use 1 kind 0;word ab use 1 kind 0;word b use 1 kind 0;");
        b.line("ab");
        due(2, x.unsure(0));
        // what is told ahead of the FAULT is not taken either
        due(-32, b.tongue("never 0 0;last 0;sounds xyz;open x;like x y;shape o;word x use 1 kind 1;word"));
        due(4, x.count(0));
        due(2, x.count(1));
        due(3, x.count(2));
        due(0, x.count(3));
        due('a', x.sound(0, 0));
        due(15, x.behind(0));
        due(1, x.ends(0));
        due(2, x.cuts(0));
        due(2, x.unsure(0));
        edge(3, "-3: n is below 0 or above what there is (THE TAPE stays)");
        for (int n : new int[] {MIN, -2, -1, 21, 500, 501, MAX}) {
            refused(-3, y -> y.tongue(n));
        }
        due(-3, x.tongue(1));
        due(0, x.tongue(0));
        b.feed("sounds ab;          ");
        due(-3, x.tongue(21));
        due(1, x.tongue(20));
        edge(3, "-30 less the FAULT");
        due(-31, b.tongue("?"));
        due(-32, b.tongue("x"));
        due(-33, b.tongue("last 4;"));
        due(-34, b.tongue("sounds ab;sounds ab;"));
    }

    private void lines() {
        edge(3, "THE TONGUE is a TEXT of at most 500 bytes");
        good(1, " ".repeat(490) + "sounds ab;");
        good(71, "last 0;".repeat(71) + "\n  ");
        faulty(2, "last 0;".repeat(70) + " last 3   ^");
        edge(3, "{ LINE ; }");
        good(0, "");
        good(1, "last 0;");
        faulty(2, "last 0^");
        faulty(2, "^;");
        faulty(2, "last 0;^;");
        faulty(2, "last 0 ^last 1;");
        edge(3, "LINE: sounds W | open W | like W W | word W use N kind N | never N N | last N | shape W.");
        good(7, "sounds ab;open a;like a b;word a use 1 kind 0;never 1 2;last 3;shape o;");
        String[] ones = {"sounds ab", "open a", "like a b", "word a use 1 kind 0", "never 1 2", "last 3", "shape o"};
        for (String line : ones) {
            String ahead = line.startsWith("sounds") ? "" : "sounds ab;";
            good(ahead.isEmpty() ? 1 : 2, ahead + line + ";");
            faulty(2, ahead + line + " ^x;");
            faulty(2, ahead + line + " ^1;");
            // each TOKEN but the first left out, or another sort of it put in
            String[] parts = line.split(" ");
            StringBuilder begun = new StringBuilder(ahead + parts[0]);
            for (int i = 1; i < parts.length; i++) {
                faulty(2, begun + "^;");
                faulty(2, begun + " ^" + (parts[i].matches("[0-9]+") ? "x" : "1") + ";");
                begun.append(" ").append(parts[i]);
            }
        }
        faulty(2, "sounds ab;word a ^kind 1 use 1;");
        faulty(2, "sounds ab;word a use 1 ^use 1;");
        misnamed();
    }

    /** Each letter of each name taken for another one, left out, or told twice. */
    private void misnamed() {
        String[][] linesByNames = {{"", "sounds", " cd;"}, {"sounds ab;", "open", " a;"}, {"sounds ab;", "like", " a b;"},
            {"sounds ab;", "word", " a use 1 kind 0;"}, {"sounds ab;word a ", "use", " 1 kind 0;"},
            {"sounds ab;word a use 1 ", "kind", " 0;"}, {"", "never", " 0 0;"}, {"", "last", " 0;"},
            {"sounds ab;", "shape", " o;"}};
        for (String[] line : linesByNames) {
            String name = line[1];
            for (int i = 0; i < name.length(); i++) {
                char letter = name.charAt(i);
                char other = letter == 'z' ? 'a' : (char) (letter + 1);
                faulty(2, line[0] + "^" + name.substring(0, i) + other + name.substring(i + 1) + line[2]);
                faulty(2, line[0] + "^" + name.substring(0, i) + name.substring(i + 1) + line[2]);
                faulty(2, line[0] + "^" + name.substring(0, i) + letter + name.substring(i) + line[2]);
            }
        }
    }

    private void soundsLine() {
        edge(3, "sounds: 2 to 8 letters");
        good(1, "sounds ab;");
        due(2, x.count(1));
        good(1, "sounds abcdefgh;");
        due(8, x.count(1));
        faulty(3, "sounds ^a;");
        faulty(3, "sounds ^abcdefghi;");
        edge(3, "no two alike (SOUNDS 0, 1 .. in that order)");
        faulty(3, "sounds ^aa;");
        faulty(3, "sounds ^abcdefga;");
        faulty(3, "sounds ^zabz;");
        good(1, "sounds hzfbdcya;");
        for (int s = 0; s < 8; s++) {
            due("hzfbdcya".charAt(s), x.sound(s, 0));
        }
        edge(3, "once, ahead of all lines with another W");
        faulty(4, "sounds ab;^sounds ab;");
        faulty(2, "^open a;sounds ab;");
        faulty(2, "^like a b;sounds ab;");
        faulty(2, "^word a use 1 kind 0;sounds ab;");
        faulty(2, "^shape o;sounds ab;");
        good(3, "never 0 1;last 1;sounds ab;");
        due(13, x.behind(0));
        due(0, x.ends(1));
        due(2, x.count(1));
        good(2, "never 0 1;last 1;");
    }

    private void openAndLike() {
        edge(5, "open: SOUNDS that are open (the others are shut; later ones strike)");
        b.tongue("sounds abcd;");
        due(0, x.sound(0, 1));
        b.tongue("sounds abcd;open db;");
        due(0, x.sound(0, 1));
        due(1, x.sound(1, 1));
        due(0, x.sound(2, 1));
        due(1, x.sound(3, 1));
        b.tongue("sounds abcd;open db;open a;");
        due(1, x.sound(0, 1));
        due(0, x.sound(1, 1));
        due(0, x.sound(3, 1));
        b.tongue("sounds abcdefgh;open hgfedcba;");
        due(1, x.sound(0, 1));
        due(1, x.sound(7, 1));
        edge(5, "like: two SOUNDS (one letter each, unlike) that are heard for one another");
        b.tongue("sounds abcd;like a c;");
        due(4, x.sound(0, 2));
        due(1, x.sound(2, 2));
        due(0, x.sound(1, 2));
        // told twice or the other way round it is the same, and c's like is not a's for that
        b.tongue("sounds abcd;like a c;like c a;like a c;like c d;");
        due(4, x.sound(0, 2));
        due(9, x.sound(2, 2));
        due(4, x.sound(3, 2));
        faulty(3, "sounds abcd;like ^ab c;");
        faulty(3, "sounds abcd;like a ^bc;");
        faulty(3, "sounds abcd;like a ^a;");
        faulty(3, "sounds abcd;like ^e a;");
        faulty(3, "sounds abcd;like a ^e;");
    }

    private void wordLine() {
        edge(6, "word: 1 to 6 SOUNDS");
        good(2, "sounds ab;word b use 1 kind 0;");
        due(1, x.word(0, 0));
        good(2, "sounds ab;word ababab use 1 kind 0;");
        due(6, x.word(0, 0));
        faulty(3, "sounds ab;word ^abababa use 1 kind 0;");
        faulty(3, "sounds ab;word ^abc use 1 kind 0;");
        edge(6, "USE 0 to 99");
        good(2, "sounds ab;word b use 0 kind 0;");
        due(0, x.word(0, 1));
        good(2, "sounds ab;word b use 99 kind 0;");
        due(99, x.word(0, 1));
        good(2, "sounds ab;word b use 099 kind 0;");
        due(99, x.word(0, 1));
        faulty(3, "sounds ab;word b use ^100 kind 0;");
        faulty(3, "sounds ab;word b use ^999 kind 0;");
        edge(6, "KIND 0 to 3");
        good(2, "sounds ab;word b use 0 kind 0;");
        due(0, x.word(0, 2));
        good(2, "sounds ab;word b use 0 kind 3;");
        due(3, x.word(0, 2));
        faulty(3, "sounds ab;word b use 0 kind ^4;");
        faulty(3, "sounds ab;word b use 0 kind ^10;");
        edge(6, "WORDS are numbered from 0 on as they come");
        good(5, "sounds ab;word bb use 1 kind 0;last 1;word a use 2 kind 0;word ba use 3 kind 0;");
        due(3, x.count(2));
        due(1, x.word(0, 1));
        due(2, x.word(1, 1));
        due(3, x.word(2, 1));
        edge(6, "12 at most, no two the same");
        good(13, words(12));
        due(12, x.count(2));
        due(11, x.word(11, 1));
        due(1, x.word(11, 12));
        faulty(4, words(12) + "^word bbb use 1 kind 0;");
        faulty(3, words(11) + "word ^a use 1 kind 0;");
        faulty(3, words(11) + "word ^baa use 1 kind 3;");
    }

    private void neverAndLast() {
        edge(8, "never: a WORD of the second KIND (0 to 3) never stands right behind one of the first");
        good(1, "never 0 3;");
        due(7, x.behind(0));
        due(15, x.behind(3));
        good(2, "never 3 0;never 3 0;");
        due(14, x.behind(3));
        due(15, x.behind(0));
        faulty(3, "never ^4 0;");
        faulty(3, "never 0 ^4;");
        faulty(3, "never 3 ^999;");
        b.tongue("sounds ab;never 0 1;word a use 1 kind 0;word b use 1 kind 1;word bb use 1 kind 2;");
        due(1, judged(0, 0));
        due(0, judged(0, 1));
        due(1, judged(1, 0));
        // right behind: with one between it may
        due(1, judged(0, 2, 1));
        edge(9, "last: a KIND whose WORDS can't be last");
        good(1, "last 0;");
        due(0, x.ends(0));
        due(1, x.ends(3));
        good(2, "last 3;last 3;");
        due(0, x.ends(3));
        faulty(3, "last ^4;");
        faulty(3, "last ^10;");
        b.tongue("sounds ab;last 0;word a use 1 kind 0;word b use 1 kind 1;");
        due(0, judged(0));
        due(0, judged(1, 0));
        due(1, judged(0, 1));
    }

    private long judged(long... words) {
        b.row(0, words);
        return x.judge(0, 1);
    }

    private void shapeLine() {
        edge(7, "shape: 1 to 6 letters o (open) and s (shut)");
        good(2, "sounds ab;shape s;");
        due(1, x.shape(0, -1));
        good(2, "sounds ab;shape soosos;");
        due(6, x.shape(0, -1));
        faulty(3, "sounds ab;shape ^soososo;");
        faulty(3, "sounds ab;shape ^a;");
        faulty(3, "sounds ab;shape ^sop;");
        faulty(3, "sounds ab;shape ^nos;");
        edge(7, "SHAPES from 0 on, 6 at most");
        String six = "sounds ab;shape o;shape so;shape sso;shape o;shape soosos;shape ss;";
        good(7, six);
        due(6, x.count(3));
        int[] lengths = {1, 2, 3, 1, 6, 2};
        for (int shape = 0; shape < 6; shape++) {
            due(lengths[shape], x.shape(shape, -1));
        }
        due(0, x.shape(5, 0));
        faulty(4, six + "^shape o;");
    }

    private void tokens() {
        edge(3, "TOKENS, as long as they go on");
        faulty(2, "^soundsab;");
        faulty(3, "never ^12;");
        faulty(3, "last ^11;");
        good(2, "sounds ab;word a use7kind3;");
        due(7, x.word(0, 1));
        due(3, x.word(0, 2));
        good(1, "never1 2;");
        edge(3, "between them blanks (10, 32)");
        good(2, "\n \nsounds\n\nab \n ;\nlast\n3;\n");
        good(2, "sounds ab;last 3;");
        faulty(1, "last^\t3;");
        faulty(1, "last^\r3;");
        faulty(1, "last^\u00003;");
        faulty(1, "last^\u000b3;");
        faulty(1, "last^\u00a03;");
        edge(3, "words (small letters)");
        good(1, "sounds az;");
        faulty(1, "^Sounds az;");
        faulty(1, "sounds ^A;");
        faulty(1, "sounds az^A;");
        faulty(1, "sounds az^`;");
        faulty(1, "sounds az^{;");
        faulty(1, "sounds az^\u00e4;");
        edge(3, "N (1 to 3 digits)");
        good(3, "last 0;last 01;last 003;");
        due(0, x.ends(0));
        due(0, x.ends(1));
        due(1, x.ends(2));
        due(0, x.ends(3));
        good(2, "sounds ab;word a use 9 kind 0;");
        due(9, x.word(0, 1));
        faulty(1, "last ^0003;");
        faulty(1, "last ^/;");
        faulty(1, "last ^:;");
        faulty(1, "last ^-1;");
        edge(3, "the sign ;");
        good(1, "last 0;");
        good(1, "last 0 ; ");
        faulty(1, "last 0^,");
        faulty(1, "last 0^.");
    }

    private void faultsInOrder() {
        edge(3, "FAULTS, the first along the text");
        faulty(3, "last ^7;!");
        faulty(2, "last 0 ^x;last 7;!");
        faulty(4, "sounds ab;^sounds a;!");
        faulty(1, "last 0;^! last 7;;");
        faulty(3, "sounds ^aa;sounds bb;");
        edge(3, "of one TOKEN the least kind");
        // no TOKEN ahead of one that can't stand there, or is out of bounds
        faulty(1, "^1000;");
        faulty(1, "last ^1000;");
        faulty(1, "last 1 ^1000;");
        faulty(1, "sounds ^1000;");
        // one that can't stand there ahead of one out of bounds, or of one more
        faulty(2, "last 1 ^9;");
        faulty(2, "sounds ^999;");
        faulty(2, "sounds ab;last ^sounds;");
        faulty(2, words(12) + "last ^word;");
    }

    private void faultsOfTokens() {
        edge(3, "1 no TOKEN begins so");
        faulty(1, "^!");
        faulty(1, "  \n^*last 0;");
        faulty(1, "last^(0);");
        faulty(1, "last 0;^\u00ff");
        faulty(1, "last 0;^\u0080");
        edge(3, "(4 digits and more: at their first)");
        faulty(1, "last ^0000;");
        faulty(1, "never 1 ^1234567890123;");
        faulty(1, "sounds ab;word a use ^0099 kind 0;");
        good(1, "last 000;");
        edge(3, "2 it can't stand there");
        faulty(2, "^12;");
        faulty(2, "^use 1;");
        faulty(2, "^kind;");
        faulty(2, "sounds ab;^sound ab;");
        faulty(2, "sounds ab;^a;");
        edge(3, "(the end: the text's length; open, like, word, shape ahead of sounds)");
        faulty(2, "last^");
        faulty(2, "last   ^");
        faulty(2, "last 0\n^");
        faulty(2, "sounds ab;word a use 1 kind^");
        anew();
        b.feed("last 0;last 0;");
        due(-32, x.tongue(11));
        due(11, x.fault(1));
        // the end of a full TAPE, behind each TOKEN
        String told = "sounds abc;open ab;like a b;word abcabc use 12 kind 3;never 0 1;last 2;shape ososos;";
        for (int end = 1; end < told.length(); end++) {
            String text = " ".repeat(500 - end) + told.substring(0, end);
            if (!text.endsWith(";") && text.substring(495).matches(".*( |abc|ab|2|3|1|os)")) {
                faulty(2, text + "^");
            }
        }
        faulty(2, "^open a;");
        faulty(2, "^like a b;");
        faulty(2, "last 0;^word a use 1 kind 0;");
        faulty(2, "never 0 0;^shape o;");
    }

    private void faultsOfValues() {
        edge(3, "3 an N out of its bounds");
        faulty(3, "never ^4 9;");
        faulty(3, "never 3 ^4;");
        faulty(3, "last ^4;");
        faulty(3, "sounds ab;word a use ^100 kind 9;");
        faulty(3, "sounds ab;word a use 99 kind ^4;");
        edge(3, "a W that can't be: other letters");
        faulty(3, "sounds ab;open ^ac;");
        faulty(3, "sounds ab;like ^c a;");
        faulty(3, "sounds ab;like a ^c;");
        faulty(3, "sounds ab;word ^ac use 1 kind 0;");
        faulty(3, "sounds ab;shape ^ab;");
        edge(3, "too many");
        faulty(3, "sounds ^abcdefghi;");
        faulty(3, "sounds ab;like ^ab a;");
        faulty(3, "sounds ab;like b ^ab;");
        faulty(3, "sounds ab;word ^aaaaaaa use 1 kind 0;");
        faulty(3, "sounds ab;shape ^ooooooo;");
        faulty(3, "sounds ab;open ^abab;");
        edge(3, "too few");
        faulty(3, "sounds ^q;");
        edge(3, "one twice among SOUNDS or open ones");
        faulty(3, "sounds ^aba;");
        faulty(3, "sounds ab;open ^aa;");
        faulty(3, "sounds abc;open ^acba;");
        good(2, "sounds ab;word aa use 1 kind 0;");
        good(2, "sounds ab;shape oo;");
        edge(3, "the second of a like that is the first");
        faulty(3, "sounds ab;like b ^b;");
        edge(3, "a WORD that is there");
        faulty(3, "sounds ab;word ab use 1 kind 0;word ^ab use 2 kind 1;");
        good(3, "sounds ab;word ab use 1 kind 0;word aba use 2 kind 1;");
    }

    private void faultsOfOneMore() {
        edge(3, "4 the first TOKEN of a second sounds");
        faulty(4, "sounds ab;^sounds cd;");
        faulty(4, "sounds ab;last 0;^sounds");
        faulty(4, "sounds ab; ^sounds 12;");
        edge(3, "a 13th word");
        faulty(4, words(12) + "^word bbb use 1 kind 0;");
        faulty(4, words(12) + "^word a use 1 kind 0;");
        faulty(4, words(12) + " ^word");
        edge(3, "a 7th shape");
        String six = "sounds ab;" + "shape os;".repeat(6);
        good(7, six);
        faulty(4, six + "^shape os;");
        faulty(4, six + "\n^shape;");
    }

    private void fault() {
        edge(4, "Of the latest tongue() that was read");
        b.tongue("last 4;");
        due(5, x.fault(1));
        b.tongue("last 0");
        due(2, x.fault(0));
        due(6, x.fault(1));
        // one that is refused by its number was not read
        due(-3, x.tongue(1));
        due(-3, x.tongue(-1));
        due(2, x.fault(0));
        due(6, x.fault(1));
        // other calls that read THE TAPE are none
        due(-9, b.line("x"));
        due(2, x.fault(0));
        b.tongue("");
        due(0, x.fault(0));
        due(-1, x.fault(1));
        edge(4, "what 0: its FAULT (0)");
        due(0, x.fault(0));
        for (int kind = 1; kind <= 4; kind++) {
            b.tongue(new String[] {"!", ";", "last 9;", "sounds ab;sounds ab;"}[kind - 1]);
            due(kind, x.fault(0));
        }
        b.tongue("last 0;");
        due(0, x.fault(0));
        edge(4, "1: its place (NONE)");
        due(-1, x.fault(1));
        b.tongue("?");
        due(0, x.fault(1));
        b.tongue("last 0;".repeat(71) + "  x");
        due(499, x.fault(1));
        b.tongue("last 0;");
        due(-1, x.fault(1));
        edge(4, "NONE for others.");
        b.tongue("last 9;");
        for (int what : new int[] {MIN, -1, 2, 3, MAX}) {
            due(-1, x.fault(what));
        }
    }

    private void sound() {
        edge(5, "Of a SOUND, what 0: its letter as a byte");
        b.tongue("sounds za;");
        due(122, x.sound(0, 0));
        due(97, x.sound(1, 0));
        edge(5, "1: 1 open, 0 shut");
        b.tongue("sounds abcdefgh;open ah;");
        int[] open = {1, 0, 0, 0, 0, 0, 0, 1};
        for (int s = 0; s < 8; s++) {
            due(open[s], x.sound(s, 1));
        }
        edge(5, "2: those that it is like (bits)");
        b.tongue("sounds abcdefgh;like h a;like h b;like h c;like h d;like h e;like h f;like h g;");
        due(127, x.sound(7, 2));
        due(128, x.sound(3, 2));
        b.tongue("sounds abcdefgh;like a h;like b h;like c h;like d h;like e h;like f h;like g h;");
        due(127, x.sound(7, 2));
        due(128, x.sound(0, 2));
        due(128, x.sound(6, 2));
        edge(5, "-2");
        for (int s : new int[] {MIN, -1, 3, 8, MAX}) {
            refused(-2, y -> y.sound(s, 0));
        }
        for (int what : new int[] {MIN, -1, 3, 10, MAX}) {
            refused(-2, y -> y.sound(0, what));
        }
        due(-2, x.sound(0, 0));
    }

    private void word() {
        edge(6, "Of a WORD, what 0: how many SOUNDS");
        b.tongue("sounds abc;word c use 0 kind 3;word acbacb use 99 kind 0;");
        due(1, x.word(0, 0));
        due(6, x.word(1, 0));
        edge(6, "1: USE");
        b.tongue("sounds abc;word c use 0 kind 3;word acbacb use 99 kind 0;");
        due(0, x.word(0, 1));
        due(99, x.word(1, 1));
        edge(6, "2: KIND");
        b.tongue("sounds abc;word c use 0 kind 3;word acbacb use 99 kind 0;");
        due(3, x.word(0, 2));
        due(0, x.word(1, 2));
        edge(6, "10 + k: its SOUND k");
        b.tongue("sounds abc;word c use 0 kind 3;word acbacb use 99 kind 0;");
        due(2, x.word(0, 10));
        int[] sounds = {0, 2, 1, 0, 2, 1};
        for (int k = 0; k < 6; k++) {
            due(sounds[k], x.word(1, 10 + k));
        }
        due(-2, x.word(0, 11));
        due(-2, x.word(1, 16));
        edge(6, "-2: no such WORD, what");
        for (int w : new int[] {MIN, -1, 4, 12, MAX}) {
            refused(-2, y -> y.word(w, 0));
        }
        for (int what : new int[] {MIN, -1, 3, 9, 11, 16, MAX}) {
            refused(-2, y -> y.word(0, what));
        }
    }

    private void shape() {
        edge(7, "Of a SHAPE, what NONE: how many");
        b.tongue("sounds ab;shape o;shape soosos;");
        due(1, x.shape(0, OneBreath.NONE));
        due(6, x.shape(1, OneBreath.NONE));
        edge(7, "k: 1 open, 0 shut");
        b.tongue("sounds ab;shape o;shape soosos;");
        due(1, x.shape(0, 0));
        int[] open = {0, 1, 1, 0, 1, 0};
        for (int k = 0; k < 6; k++) {
            due(open[k], x.shape(1, k));
        }
        edge(7, "-2");
        for (int shape : new int[] {MIN, -1, 1, 6, MAX}) {
            refused(-2, y -> y.shape(shape, -1));
        }
        for (int what : new int[] {MIN, -2, 2, 6, 10, MAX}) {
            refused(-2, y -> y.shape(0, what));
        }
    }

    private void behindAndEnds() {
        edge(8, "KINDS (bits) that may stand behind a KIND (0 to 3)");
        b.tongue("never 0 0;never 0 1;never 0 2;never 0 3;never 3 3;never 2 0;");
        due(0, x.behind(0));
        due(15, x.behind(1));
        due(14, x.behind(2));
        due(7, x.behind(3));
        edge(8, "-2");
        for (int kind : new int[] {MIN, -1, 4, MAX}) {
            refused(-2, y -> y.behind(kind));
        }
        edge(9, "Whether a KIND can be last: 1, 0");
        b.tongue("last 0;last 3;");
        due(0, x.ends(0));
        due(1, x.ends(1));
        due(1, x.ends(2));
        due(0, x.ends(3));
        edge(9, "-2");
        for (int kind : new int[] {MIN, -1, 4, MAX}) {
            refused(-2, y -> y.ends(kind));
        }
    }

    private void spelt() {
        edge(10, "The WORD that the first n bytes of THE TAPE (which is empty then) spell");
        b.tongue("sounds abc;word a use 1 kind 0;word abcabc use 1 kind 0;word ab use 1 kind 0;");
        for (int[] nAndWord : new int[][] {{1, 0}, {2, 2}, {6, 1}}) {
            b.feed("abcabcabc");
            due(nAndWord[1], x.spelt(nAndWord[0]));
            due(0, x.count(5));
        }
        edge(10, "NONE");
        b.tongue("sounds abc;word a use 1 kind 0;word abcabc use 1 kind 0;word ab use 1 kind 0;");
        // no bytes; no WORD; no SOUNDS; more than any WORD has
        for (String text : new String[] {"", "b", "aba", "abcabca", "x", "a ", "A", "a".repeat(41), "a".repeat(500)}) {
            b.feed(text);
            due(-1, x.spelt(text.length()));
            due(0, x.count(5));
        }
        anew();
        due(-1, x.spelt(0));
        edge(10, "-3: n (THE TAPE stays)");
        for (int n : new int[] {MIN, -1, 21, 500, 501, MAX}) {
            refused(-3, y -> y.spelt(n));
        }
        due(-3, x.spelt(1));
    }

    private void unlike() {
        edge(11, "UNLIKE");
        b.tongue("sounds abc;like a b;word abc use 1 kind 0;word ca use 1 kind 0;");
        due(0, x.unlike(0, 0));
        due(0, x.unlike(1, 1));
        // ab left out, a put in: 6; c for a, a for b, c left out: 5 (a for b is like)
        due(5, x.unlike(0, 1));
        due(5, x.unlike(1, 0));
        edge(11, "UNLIKE of two WORDS: the least cost to make one the other");
        // one put in ahead and one left out behind (4), not six for one another (12)
        b.tongue("sounds ab;word ababab use 1 kind 0;word bababa use 1 kind 0;word a use 1 kind 0;");
        due(4, x.unlike(0, 1));
        due(4, x.unlike(1, 0));
        edge(11, "a SOUND put in or left out 2");
        b.tongue("sounds ab;like a b;word a use 1 kind 0;word ab use 1 kind 0;word aaaaaa use 1 kind 0;");
        due(2, x.unlike(0, 1));
        due(2, x.unlike(1, 0));
        due(10, x.unlike(0, 2));
        due(10, x.unlike(2, 0));
        edge(11, "a SOUND for a like one 1");
        b.tongue("sounds abc;like c b;word bbbbbb use 1 kind 0;word cccccc use 1 kind 0;word b use 1 kind 0;"
                + "word c use 1 kind 0;");
        due(6, x.unlike(0, 1));
        due(1, x.unlike(2, 3));
        due(1, x.unlike(3, 2));
        edge(11, "for another one 2");
        b.tongue("sounds abc;like a b;like b c;word aaaaaa use 1 kind 0;word cccccc use 1 kind 0;word a use 1 kind 0;"
                + "word c use 1 kind 0;");
        due(12, x.unlike(0, 1));
        due(2, x.unlike(2, 3));
        edge(11, "-2");
        for (int w : new int[] {MIN, -1, 4, 12, MAX}) {
            refused(-2, y -> y.unlike(w, 0));
            refused(-2, y -> y.unlike(0, w));
        }
        due(-2, x.unlike(0, 0));
    }

    private void near() {
        edge(12, "The WORD least UNLIKE a WORD but itself");
        b.tongue("sounds abc;like a b;word aaa use 1 kind 0;word c use 1 kind 0;word aba use 1 kind 0;");
        due(2, x.near(0));
        due(0, x.near(2));
        due(0, x.near(1));
        edge(12, "the first of like ones");
        b.tongue("sounds abc;word ab use 1 kind 0;word b use 1 kind 0;word a use 1 kind 0;word c use 1 kind 0;");
        due(1, x.near(0));
        due(0, x.near(1));
        due(0, x.near(2));
        due(1, x.near(3));
        edge(12, "NONE: there is but one");
        b.tongue("sounds ab;word ab use 1 kind 0;");
        due(-1, x.near(0));
        edge(12, "-2");
        for (int w : new int[] {MIN, -1, 4, 12, MAX}) {
            refused(-2, y -> y.near(w));
        }
        due(-2, x.near(0));
    }
}
