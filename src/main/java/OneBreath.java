import java.util.Arrays;

/**
 * What is said in one breath: a tongue, and what is said in it without a stop, cut into words.
 *
 * All rows are made once, with the object, and used again by every call: no call makes an object.
 */
public final class OneBreath {
    public static final int NONE = -1;

    private static final int NO_SUCH = -2;
    private static final int WRONG_NUMBER = -3;
    private static final int NOT_NOW = -5;
    private static final int ROW_MISSING = -6;
    private static final int NO_SUCH_NUMBER = -7;
    private static final int NOT_SOUNDS = -9;
    private static final int FAULTY = -30;

    private static final int MOST_BYTES = 500;
    private static final int FED = 20;
    private static final int MOST_SOUNDS = 8;
    private static final int MOST_WORDS = 12;
    private static final int WORD_MOST = 6;
    private static final int MOST_SHAPES = 6;
    private static final int MOST_USE = 99;
    private static final int KINDS = 4;
    /** Stands where a KIND would, if no WORD is ahead. */
    private static final int START = 4;
    private static final int LINE_MOST = 40;
    private static final int SAID_MOST = 60;
    private static final int FITTED_MOST = 12;
    private static final int ADDED_MOST = 3;
    private static final int MENDED_MOST = 3;
    private static final int MISTAKES_MOST = 2;
    private static final int ROWS = 4;
    private static final int SORTS = 4;
    private static final int ROW_MOST = 40;
    private static final int IMAGES = 2;
    private static final int FIRST_SOUND = 10;
    private static final int TIMES_MOST = 9;

    private final Tape tape;
    private final Tongue tongue;
    private final Sounds breath;
    private final Sounds scratch;
    private final Rows rows;
    private final Verdict verdict;
    private final Cutter ofBreath;
    private final Cutter trial;
    private final Noise channel;
    private final Measure measure;
    private final Mender mender;
    private final Census census;
    private final Tongue[] imagedTongues;
    private final Sounds[] imagedBreaths;
    private final boolean[] imaged;

    public OneBreath() {
        tape = new Tape();
        tongue = new Tongue();
        breath = new Sounds();
        scratch = new Sounds();
        rows = new Rows();
        verdict = new Verdict();
        ofBreath = new Cutter(tongue);
        trial = new Cutter(tongue);
        channel = new Noise(tongue, trial);
        measure = new Measure();
        mender = new Mender(tongue, measure);
        census = new Census(tongue);
        imagedTongues = new Tongue[IMAGES];
        imagedBreaths = new Sounds[IMAGES];
        imaged = new boolean[IMAGES];
        for (int i = 0; i < IMAGES; i++) {
            imagedTongues[i] = new Tongue();
            imagedBreaths[i] = new Sounds();
        }
    }

    // ---- the tongue

    public int feed(int a, int b, int c, int d, int e) {
        if (tape.size > MOST_BYTES - FED) {
            return NOT_NOW;
        }
        tape.put(a);
        tape.put(b);
        tape.put(c);
        tape.put(d);
        tape.put(e);
        return tape.size;
    }

    public int tongue(int n) {
        if (!tape.holds(n)) {
            return WRONG_NUMBER;
        }
        tape.readTongue(n);
        tape.size = 0;
        if (tape.faultKind != 0) {
            return FAULTY - tape.faultKind;
        }
        tongue.become(tape.draft);
        breath.length = 0;
        forgetTongue();
        return tongue.lines;
    }

    public int fault(int what) {
        if (what == 0) {
            return tape.faultKind;
        }
        return what == 1 ? tape.faultPlace : NONE;
    }

    public int sound(int sound, int what) {
        if (sound < 0 || sound >= tongue.sounds) {
            return NO_SUCH;
        }
        switch (what) {
            case 0:
                return tongue.letters[sound];
            case 1:
                return (tongue.open >> sound) & 1;
            case 2:
                return tongue.like[sound];
            default:
                return NO_SUCH;
        }
    }

    public int word(int w, int what) {
        if (!tongue.hasWord(w)) {
            return NO_SUCH;
        }
        switch (what) {
            case 0:
                return tongue.lengths[w];
            case 1:
                return tongue.uses[w];
            case 2:
                return tongue.kinds[w];
            default:
                break;
        }
        if (what < FIRST_SOUND || what - FIRST_SOUND >= tongue.lengths[w]) {
            return NO_SUCH;
        }
        return tongue.spelling[w][what - FIRST_SOUND];
    }

    public int shape(int shape, int what) {
        if (shape < 0 || shape >= tongue.shapes) {
            return NO_SUCH;
        }
        if (what == NONE) {
            return tongue.shapeLengths[shape];
        }
        if (what < 0 || what >= tongue.shapeLengths[shape]) {
            return NO_SUCH;
        }
        return (tongue.shapeBits[shape] >> what) & 1;
    }

    public int behind(int kind) {
        return isKind(kind) ? tongue.follow[kind] : NO_SUCH;
    }

    public int ends(int kind) {
        return isKind(kind) ? (tongue.ending >> kind) & 1 : NO_SUCH;
    }

    public int spelt(int n) {
        if (!tape.holds(n)) {
            return WRONG_NUMBER;
        }
        boolean spelled = tape.spellInto(n, tongue, scratch);
        tape.size = 0;
        return spelled ? tongue.findWord(scratch.row, scratch.length) : NONE;
    }

    public int unlike(int w, int v) {
        if (!tongue.hasWord(w) || !tongue.hasWord(v)) {
            return NO_SUCH;
        }
        return measure.toWord(tongue, tongue.spelling[w], tongue.lengths[w], v);
    }

    public int near(int w) {
        if (!tongue.hasWord(w)) {
            return NO_SUCH;
        }
        int nearest = NONE;
        int least = 0;
        for (int v = 0; v < tongue.words; v++) {
            int cost = measure.toWord(tongue, tongue.spelling[w], tongue.lengths[w], v);
            if (v != w && (nearest == NONE || cost < least)) {
                nearest = v;
                least = cost;
            }
        }
        return nearest;
    }

    // ---- sentences, the line

    public int judge(int row, int what) {
        if (!rows.isRow(row) || what < 0 || what > 3) {
            return NO_SUCH;
        }
        if (rows.isMissing(row)) {
            return ROW_MISSING;
        }
        verdict.hear(tongue, rows, row);
        switch (what) {
            case 0:
                return verdict.wrongPlace;
            case 1:
                return verdict.isSentence ? 1 : 0;
            case 2:
                return verdict.sounds;
            default:
                return verdict.uses;
        }
    }

    public int say(int row) {
        if (!rows.isRow(row)) {
            return NO_SUCH;
        }
        if (rows.isMissing(row)) {
            return ROW_MISSING;
        }
        verdict.hear(tongue, rows, row);
        if (!verdict.isSentence) {
            return WRONG_NUMBER;
        }
        if (verdict.sounds > LINE_MOST) {
            return NOT_NOW;
        }
        verdict.sayInto(tongue, breath);
        ofBreath.forget();
        return breath.length;
    }

    public int line(int n) {
        if (n > LINE_MOST || !tape.holds(n)) {
            return WRONG_NUMBER;
        }
        boolean spelled = tape.spellInto(n, tongue, scratch);
        tape.size = 0;
        if (!spelled) {
            return NOT_SOUNDS;
        }
        breath.become(scratch);
        ofBreath.forget();
        return n;
    }

    public int at(int i) {
        return i >= 0 && i < breath.length ? breath.row[i] : NONE;
    }

    public int cuts(int m) {
        if (m < 0 || m > MISTAKES_MOST) {
            return WRONG_NUMBER;
        }
        trial.lay(breath);
        return trial.countWays(m);
    }

    public int cut(int which, int k) {
        if (!isCut(which)) {
            return NO_SUCH;
        }
        if (k < NONE) {
            return WRONG_NUMBER;
        }
        cutBreath(which);
        if (ofBreath.chosenCount == 0) {
            return NONE;
        }
        return k == NONE ? ofBreath.chosenCount : ofBreath.chosenAt(k);
    }

    public int mistakes() {
        cutBreath(Cutter.HEARD);
        return ofBreath.chosenCount == 0 ? NONE : ofBreath.chosenMisses();
    }

    public int bound(int i) {
        if (i < 1 || i > breath.length) {
            return WRONG_NUMBER;
        }
        trial.lay(breath);
        trial.breakBehind(i);
        return trial.countWays(0);
    }

    // ---- sure

    public int unsure(int m) {
        if (m < 0 || m > MISTAKES_MOST) {
            return WRONG_NUMBER;
        }
        return mender.leastUnsure(m);
    }

    public int unsureAt(int i) {
        return mender.unsureSound(i);
    }

    public int bears() {
        int m = MISTAKES_MOST;
        while (m >= 0 && mender.leastUnsure(m) != NONE) {
            m--;
        }
        return m;
    }

    public int added(int kind, int what) {
        boolean asksSound = what >= FIRST_SOUND && what < FIRST_SOUND + ADDED_MOST;
        if (!isKind(kind) || (what != 0 && what != 1 && !asksSound)) {
            return NO_SUCH;
        }
        mender.findAdded(kind);
        Sounds best = mender.addedRows[kind];
        if (best.length == 0) {
            return NONE;
        }
        if (what == 0) {
            return best.length;
        }
        if (what == 1) {
            return mender.addedCosts[kind];
        }
        int k = what - FIRST_SOUND;
        return k < best.length ? best.row[k] : NONE;
    }

    public int adds(int kind, int n, int m) {
        if (!isKind(kind)) {
            return NO_SUCH;
        }
        if (!tape.holds(n) || m < 0 || m > MISTAKES_MOST) {
            return WRONG_NUMBER;
        }
        boolean spelled = tape.spellInto(n, tongue, scratch);
        tape.size = 0;
        if (!spelled || n < 1 || n > WORD_MOST || tongue.findWord(scratch.row, n) != NONE) {
            return NOT_SOUNDS;
        }
        return mender.isSureWith(scratch.row, n, kind, m) ? 1 : 0;
    }

    public int mended(int what) {
        if (what != 0 && what != 1) {
            return NO_SUCH;
        }
        int bits = mender.leftOut();
        return bits == NONE || what == 1 ? bits : Integer.bitCount(bits);
    }

    public int changed(int what) {
        if (what < 0 || what > 2) {
            return NO_SUCH;
        }
        mender.findChange();
        switch (what) {
            case 0:
                return mender.changedWord;
            case 1:
                return mender.changedPlace;
            default:
                return mender.changedSound;
        }
    }

    public int paused(int what) {
        if (what != 0 && what != 1) {
            return NO_SUCH;
        }
        int bits = mender.stops();
        return bits == NONE || what == 1 ? bits : Integer.bitCount(bits);
    }

    public int begun(int what) {
        if (what != 0 && what != 1) {
            return NO_SUCH;
        }
        for (int w = 0; w < tongue.words; w++) {
            int longer = census.firstBegunBy(w);
            if (longer != NONE) {
                return what == 0 ? w : longer;
            }
        }
        return NONE;
    }

    public int fitted(int n, int what) {
        if (what != 0 && what != 1) {
            return NO_SUCH;
        }
        if (!tape.holds(n)) {
            return WRONG_NUMBER;
        }
        boolean spelled = tape.spellInto(n, tongue, scratch);
        tape.size = 0;
        if (!spelled || n > FITTED_MOST) {
            return NOT_SOUNDS;
        }
        int fittest = NONE;
        int least = NONE;
        for (int shape = 0; shape < tongue.shapes; shape++) {
            int cost = measure.toShape(tongue, scratch.row, n, shape);
            if (fittest == NONE || cost < least) {
                fittest = shape;
                least = cost;
            }
        }
        return what == 0 ? least : fittest;
    }

    // ---- talk

    public int talk() {
        int sum = 0;
        for (int w = 0; w < tongue.words; w++) {
            sum += tongue.uses[w] * tongue.lengths[w];
        }
        return sum;
    }

    public int code(int n) {
        return n < 2 || n > MOST_SOUNDS ? WRONG_NUMBER : census.leastTalk(n);
    }

    public int said(int n) {
        if (n < 0 || n > SAID_MOST) {
            return WRONG_NUMBER;
        }
        trial.layAny(n);
        return trial.countWays(0);
    }

    public int richest(int n, int k) {
        if (n < 1 || n > SAID_MOST || k < NONE) {
            return WRONG_NUMBER;
        }
        trial.layAny(n);
        trial.choose(Cutter.MOST_USED);
        if (trial.chosenCount == 0) {
            return NONE;
        }
        return k == NONE ? trial.chosenUses() : trial.chosenAt(k);
    }

    public int endless() {
        census.measureSentences();
        return census.withoutEnd ? 1 : 0;
    }

    public int longest() {
        census.measureSentences();
        return census.withoutEnd ? NONE : census.mostSounds;
    }

    public int noise(int row, int seed, int hundredths, int what) {
        boolean asksSound = what >= FIRST_SOUND && what < FIRST_SOUND + LINE_MOST;
        if (!rows.isRow(row) || (what != 0 && what != 1 && !asksSound)) {
            return NO_SUCH;
        }
        int refusal = hearForNoise(row, hundredths);
        if (refusal != 0) {
            return refusal;
        }
        channel.seed = seed;
        channel.carry(scratch, hundredths);
        if (what == 0) {
            return channel.made;
        }
        if (what == 1) {
            return channel.isUnderstood(verdict) ? 1 : 0;
        }
        int i = what - FIRST_SOUND;
        return i < channel.come.length ? channel.come.row[i] : NONE;
    }

    public int asked(int row, int seed, int hundredths) {
        if (!rows.isRow(row)) {
            return NO_SUCH;
        }
        int refusal = hearForNoise(row, hundredths);
        if (refusal != 0) {
            return refusal;
        }
        channel.seed = seed;
        for (int time = 1; time <= TIMES_MOST; time++) {
            channel.carry(scratch, hundredths);
            if (channel.isUnderstood(verdict)) {
                return time;
            }
        }
        return NONE;
    }

    public int tree() {
        return census.countBeginnings() + 1;
    }

    public int limb(int k, int what) {
        if (k < 1 || k > MOST_WORDS) {
            return WRONG_NUMBER;
        }
        boolean asksSound = what >= FIRST_SOUND && what < FIRST_SOUND + WORD_MOST;
        if (what != 0 && what != 1 && !asksSound) {
            return NO_SUCH;
        }
        if (tongue.words < k) {
            return NONE;
        }
        census.findLimb(k);
        if (what == 0) {
            return census.limbLength;
        }
        if (what == 1) {
            return census.countSharing(census.limbWord, census.limbLength);
        }
        int i = what - FIRST_SOUND;
        return i < census.limbLength ? tongue.spelling[census.limbWord][i] : NONE;
    }

    // ---- rows of numbers, images

    public int numbers(int row, int sort, int n) {
        if (!rows.isRow(row) || sort < 0 || sort >= SORTS) {
            return NO_SUCH;
        }
        if (n < 0 || n > ROW_MOST) {
            return WRONG_NUMBER;
        }
        rows.renew(row, sort, n);
        return 0;
    }

    public long write(int row, int i, long v) {
        if (!rows.isRow(row)) {
            return NO_SUCH;
        }
        if (rows.isMissing(row)) {
            return ROW_MISSING;
        }
        if (i < 0 || i >= rows.sizes[row]) {
            return NO_SUCH_NUMBER;
        }
        return rows.put(row, i, v);
    }

    public int copy(int which, int row) {
        if (!isCut(which) || !rows.isRow(row)) {
            return NO_SUCH;
        }
        cutBreath(which);
        if (ofBreath.chosenCount == 0) {
            return NOT_NOW;
        }
        if (rows.isMissing(row)) {
            return ROW_MISSING;
        }
        if (ofBreath.chosenCount > rows.sizes[row]) {
            return NO_SUCH_NUMBER;
        }
        for (int i = 0; i < ofBreath.chosenCount; i++) {
            rows.put(row, i, ofBreath.chosen[i]);
        }
        return ofBreath.chosenCount;
    }

    public int image(int i) {
        if (i < 0 || i >= IMAGES) {
            return NO_SUCH;
        }
        imagedTongues[i].become(tongue);
        imagedBreaths[i].become(breath);
        imaged[i] = true;
        return 0;
    }

    public int restore(int i) {
        if (i < 0 || i >= IMAGES) {
            return NO_SUCH;
        }
        if (!imaged[i]) {
            return NOT_NOW;
        }
        tongue.become(imagedTongues[i]);
        breath.become(imagedBreaths[i]);
        forgetTongue();
        return 0;
    }

    public int count(int what) {
        switch (what) {
            case 0:
                return tongue.lines;
            case 1:
                return tongue.sounds;
            case 2:
                return tongue.words;
            case 3:
                return tongue.shapes;
            case 4:
                return breath.length;
            case 5:
                return tape.size;
            default:
                return NONE;
        }
    }

    private static boolean isKind(int kind) {
        return kind >= 0 && kind < KINDS;
    }

    private static boolean isCut(int which) {
        return which >= Cutter.FIRST && which <= Cutter.HEARD;
    }

    private void forgetTongue() {
        ofBreath.forget();
        mender.forget();
    }

    /** Several calls ask for one CUT: it is looked for once. */
    private void cutBreath(int which) {
        if (ofBreath.chosenAs != which) {
            ofBreath.lay(breath);
            ofBreath.choose(which);
        }
    }

    /** What noise() and asked() refuse behind -2; else scratch is the SENTENCE as it is said. */
    private int hearForNoise(int row, int hundredths) {
        if (rows.isMissing(row)) {
            return ROW_MISSING;
        }
        verdict.hear(tongue, rows, row);
        if (!verdict.isSentence || verdict.sounds > LINE_MOST) {
            return WRONG_NUMBER;
        }
        if (hundredths < 0 || hundredths > 100) {
            return WRONG_NUMBER;
        }
        verdict.sayInto(tongue, scratch);
        return 0;
    }

    /** A row of up to 40 SOUNDS. */
    private static final class Sounds {
        final byte[] row = new byte[LINE_MOST];
        int length;

        void become(Sounds other) {
            System.arraycopy(other.row, 0, row, 0, LINE_MOST);
            length = other.length;
        }

        void add(byte sound) {
            if (length < LINE_MOST) {
                row[length] = sound;
                length++;
            }
        }
    }

    /** THE TONGUE as it was read. */
    private static final class Tongue {
        int lines;
        int sounds;
        int words;
        int shapes;
        /** SOUNDS that are open, as bits. */
        int open;
        /** KINDS that can be last, as bits. */
        int ending;
        final byte[] letters = new byte[MOST_SOUNDS];
        final int[] like = new int[MOST_SOUNDS];
        final byte[][] spelling = new byte[MOST_WORDS][WORD_MOST];
        final int[] lengths = new int[MOST_WORDS];
        final int[] uses = new int[MOST_WORDS];
        final int[] kinds = new int[MOST_WORDS];
        final int[] follow = new int[KINDS];
        final int[] shapeLengths = new int[MOST_SHAPES];
        final int[] shapeBits = new int[MOST_SHAPES];

        Tongue() {
            empty();
        }

        void empty() {
            lines = 0;
            sounds = 0;
            words = 0;
            shapes = 0;
            open = 0;
            ending = (1 << KINDS) - 1;
            Arrays.fill(like, 0);
            Arrays.fill(follow, (1 << KINDS) - 1);
        }

        void become(Tongue other) {
            lines = other.lines;
            sounds = other.sounds;
            words = other.words;
            shapes = other.shapes;
            open = other.open;
            ending = other.ending;
            System.arraycopy(other.letters, 0, letters, 0, MOST_SOUNDS);
            System.arraycopy(other.like, 0, like, 0, MOST_SOUNDS);
            for (int w = 0; w < MOST_WORDS; w++) {
                System.arraycopy(other.spelling[w], 0, spelling[w], 0, WORD_MOST);
            }
            System.arraycopy(other.lengths, 0, lengths, 0, MOST_WORDS);
            System.arraycopy(other.uses, 0, uses, 0, MOST_WORDS);
            System.arraycopy(other.kinds, 0, kinds, 0, MOST_WORDS);
            System.arraycopy(other.follow, 0, follow, 0, KINDS);
            System.arraycopy(other.shapeLengths, 0, shapeLengths, 0, MOST_SHAPES);
            System.arraycopy(other.shapeBits, 0, shapeBits, 0, MOST_SHAPES);
        }

        boolean hasWord(long w) {
            return w >= 0 && w < words;
        }

        int findSound(int letter) {
            for (int i = 0; i < sounds; i++) {
                if (letters[i] == letter) {
                    return i;
                }
            }
            return NONE;
        }

        int findWord(byte[] row, int n) {
            for (int w = 0; w < words; w++) {
                if (lengths[w] == n && begins(row, n, w)) {
                    return w;
                }
            }
            return NONE;
        }

        /** Whether the first n of a row are the first n SOUNDS of a WORD. */
        boolean begins(byte[] row, int n, int w) {
            if (n > lengths[w]) {
                return false;
            }
            for (int i = 0; i < n; i++) {
                if (row[i] != spelling[w][i]) {
                    return false;
                }
            }
            return true;
        }

        boolean mayFollow(int kind, int w) {
            return kind == START || ((follow[kind] >> kinds[w]) & 1) != 0;
        }

        boolean mayEnd(int kind) {
            return kind != START && ((ending >> kind) & 1) != 0;
        }
    }

    /** THE TAPE, and how it is read: as SOUNDS, or as a TONGUE up to its first FAULT. */
    private static final class Tape {
        private static final int END = 0;
        private static final int NAME = 1;
        private static final int NUMBER = 2;
        private static final int STOP = 3;
        private static final int NO_TOKEN = 4;

        private static final int FAULT_TOKEN = 1;
        private static final int FAULT_PLACE = 2;
        private static final int FAULT_VALUE = 3;
        private static final int FAULT_ONE_MORE = 4;

        private static final int DIGITS_MOST = 3;
        private static final int NEW_LINE = 10;

        private final byte[] text = new byte[MOST_BYTES];
        int size;
        private int length;
        /** What is read; it may be left half told by a FAULT. */
        final Tongue draft = new Tongue();
        private int token;
        private int from;
        private int to;
        int faultKind;
        int faultPlace = NONE;

        boolean holds(int n) {
            return n >= 0 && n <= size;
        }

        void put(int four) {
            for (int shift = 24; shift >= 0; shift -= 8) {
                if (size < MOST_BYTES) {
                    text[size] = (byte) (four >>> shift);
                    size++;
                }
            }
        }

        /** False if the first n bytes are not SOUNDS, or are more than a row can have. */
        boolean spellInto(int n, Tongue tongue, Sounds sounds) {
            sounds.length = 0;
            if (n > LINE_MOST || n > size) {
                return false;
            }
            for (int i = 0; i < n; i++) {
                int sound = tongue.findSound(text[i]);
                if (sound == NONE) {
                    return false;
                }
                sounds.add((byte) sound);
            }
            return true;
        }

        void readTongue(int n) {
            length = Math.min(n, size);
            to = 0;
            faultKind = 0;
            faultPlace = NONE;
            draft.empty();
            advance();
            for (int line = 0; line < MOST_BYTES && token != END && faultKind == 0; line++) {
                readLine();
                if (faultKind == 0 && wants(STOP)) {
                    draft.lines++;
                    advance();
                }
            }
        }

        private void readLine() {
            if (token == NO_TOKEN) {
                fail(FAULT_TOKEN);
            } else if (token != NAME) {
                fail(FAULT_PLACE);
            } else if (isNamed("sounds")) {
                readSounds();
            } else if (isNamed("never")) {
                readNever();
            } else if (isNamed("last")) {
                readLast();
            } else if (draft.sounds == 0) {
                fail(FAULT_PLACE);
            } else if (isNamed("open")) {
                readOpen();
            } else if (isNamed("like")) {
                readLike();
            } else if (isNamed("word")) {
                readWord();
            } else if (isNamed("shape")) {
                readShape();
            } else {
                fail(FAULT_PLACE);
            }
        }

        private void readSounds() {
            if (draft.sounds > 0) {
                fail(FAULT_ONE_MORE);
                return;
            }
            if (!wants(NAME)) {
                return;
            }
            int n = to - from;
            if (n < 2 || n > MOST_SOUNDS || hasTwice()) {
                fail(FAULT_VALUE);
                return;
            }
            for (int i = 0; i < n; i++) {
                draft.letters[i] = text[from + i];
            }
            draft.sounds = n;
        }

        private void readOpen() {
            if (!wants(NAME)) {
                return;
            }
            if (!isOfSounds() || hasTwice()) {
                fail(FAULT_VALUE);
                return;
            }
            draft.open = 0;
            for (int i = from; i < to; i++) {
                draft.open |= 1 << draft.findSound(text[i]);
            }
        }

        private void readLike() {
            int first = wantSound();
            if (first == NONE) {
                return;
            }
            int second = wantSound();
            if (second == NONE) {
                return;
            }
            if (second == first) {
                fail(FAULT_VALUE);
                return;
            }
            draft.like[first] |= 1 << second;
            draft.like[second] |= 1 << first;
        }

        private void readWord() {
            int w = draft.words;
            if (w >= MOST_WORDS) {
                fail(FAULT_ONE_MORE);
                return;
            }
            if (!wants(NAME)) {
                return;
            }
            int n = to - from;
            if (n > WORD_MOST || !isOfSounds()) {
                fail(FAULT_VALUE);
                return;
            }
            for (int i = 0; i < n; i++) {
                draft.spelling[w][i] = (byte) draft.findSound(text[from + i]);
            }
            if (draft.findWord(draft.spelling[w], n) != NONE) {
                fail(FAULT_VALUE);
                return;
            }
            draft.lengths[w] = n;
            wantName("use");
            draft.uses[w] = wantNumber(MOST_USE);
            wantName("kind");
            draft.kinds[w] = wantNumber(KINDS - 1);
            draft.words++;
        }

        private void readNever() {
            int first = wantNumber(KINDS - 1);
            int second = wantNumber(KINDS - 1);
            if (faultKind == 0) {
                draft.follow[first] &= ~(1 << second);
            }
        }

        private void readLast() {
            int kind = wantNumber(KINDS - 1);
            if (faultKind == 0) {
                draft.ending &= ~(1 << kind);
            }
        }

        private void readShape() {
            if (draft.shapes >= MOST_SHAPES) {
                fail(FAULT_ONE_MORE);
                return;
            }
            if (!wants(NAME)) {
                return;
            }
            int n = to - from;
            if (n > WORD_MOST) {
                fail(FAULT_VALUE);
                return;
            }
            int bits = 0;
            for (int i = 0; i < n; i++) {
                int letter = text[from + i];
                if (letter != 'o' && letter != 's') {
                    fail(FAULT_VALUE);
                    return;
                }
                bits |= letter == 'o' ? 1 << i : 0;
            }
            draft.shapeLengths[draft.shapes] = n;
            draft.shapeBits[draft.shapes] = bits;
            draft.shapes++;
        }

        /** A SOUND told by one letter, or NONE and a FAULT. */
        private int wantSound() {
            if (!wants(NAME)) {
                return NONE;
            }
            int sound = to - from == 1 ? draft.findSound(text[from]) : NONE;
            if (sound == NONE) {
                fail(FAULT_VALUE);
            }
            return sound;
        }

        private void wantName(String name) {
            if (wants(NAME) && !isNamed(name)) {
                fail(FAULT_PLACE);
            }
        }

        /** A number from 0 to most; behind a FAULT, or with one, 0. */
        private int wantNumber(int most) {
            if (!wants(NUMBER)) {
                return 0;
            }
            int value = 0;
            for (int i = from; i < to; i++) {
                value = value * 10 + (text[i] - '0');
            }
            if (value > most) {
                fail(FAULT_VALUE);
                return 0;
            }
            return value;
        }

        /** Goes on to the next TOKEN, if no FAULT is behind: whether it is of that sort. */
        private boolean wants(int sort) {
            if (faultKind != 0) {
                return false;
            }
            advance();
            if (token != sort) {
                fail(token == NO_TOKEN ? FAULT_TOKEN : FAULT_PLACE);
            }
            return faultKind == 0;
        }

        private void fail(int kind) {
            if (faultKind == 0) {
                faultKind = kind;
                faultPlace = from;
            }
        }

        private void advance() {
            from = to;
            while (from < length && (text[from] == ' ' || text[from] == NEW_LINE)) {
                from++;
            }
            to = from;
            while (to < length && text[to] >= 'a' && text[to] <= 'z') {
                to++;
            }
            if (to > from) {
                token = NAME;
                return;
            }
            while (to < length && text[to] >= '0' && text[to] <= '9') {
                to++;
            }
            if (to > from) {
                token = to - from > DIGITS_MOST ? NO_TOKEN : NUMBER;
                return;
            }
            if (from >= length) {
                token = END;
                return;
            }
            token = text[from] == ';' ? STOP : NO_TOKEN;
            to++;
        }

        private boolean isNamed(String name) {
            if (to - from != name.length()) {
                return false;
            }
            for (int i = 0; i < name.length(); i++) {
                if (text[from + i] != name.charAt(i)) {
                    return false;
                }
            }
            return true;
        }

        private boolean isOfSounds() {
            for (int i = from; i < to; i++) {
                if (draft.findSound(text[i]) == NONE) {
                    return false;
                }
            }
            return true;
        }

        private boolean hasTwice() {
            int letters = 0;
            for (int i = from; i < to; i++) {
                int bit = 1 << (text[i] - 'a');
                if ((letters & bit) != 0) {
                    return true;
                }
                letters |= bit;
            }
            return false;
        }
    }

    /** ROWS OF NUMBERS: each is held as longs, cut as its sort asks when it is written. */
    private static final class Rows {
        final long[][] values = new long[ROWS][ROW_MOST];
        final int[] sizes = {NONE, NONE, NONE, NONE};
        final int[] sorts = new int[ROWS];

        boolean isRow(int row) {
            return row >= 0 && row < ROWS;
        }

        boolean isMissing(int row) {
            return sizes[row] == NONE;
        }

        void renew(int row, int sort, int n) {
            Arrays.fill(values[row], 0L);
            sizes[row] = n;
            sorts[row] = sort;
        }

        long put(int row, int i, long v) {
            values[row][i] = cutTo(sorts[row], v);
            return values[row][i];
        }

        private static long cutTo(int sort, long v) {
            switch (sort) {
                case 0:
                    return (byte) v;
                case 1:
                    return (short) v;
                case 2:
                    return (int) v;
                default:
                    return v;
            }
        }
    }

    /** What a ROW OF NUMBERS is, taken as WORDS. */
    private static final class Verdict {
        final int[] words = new int[ROW_MOST];
        /** How many WORDS stand ahead of the first wrong place. */
        int count;
        int wrongPlace;
        int sounds;
        int uses;
        boolean isSentence;

        void hear(Tongue tongue, Rows rows, int row) {
            count = 0;
            wrongPlace = NONE;
            sounds = 0;
            uses = 0;
            int kind = START;
            for (int i = 0; i < rows.sizes[row] && wrongPlace == NONE; i++) {
                long number = rows.values[row][i];
                if (!tongue.hasWord(number) || !tongue.mayFollow(kind, (int) number)) {
                    wrongPlace = i;
                } else {
                    int w = (int) number;
                    words[i] = w;
                    count++;
                    sounds += tongue.lengths[w];
                    uses += tongue.uses[w];
                    kind = tongue.kinds[w];
                }
            }
            isSentence = wrongPlace == NONE && tongue.mayEnd(kind);
        }

        void sayInto(Tongue tongue, Sounds into) {
            into.length = 0;
            for (int i = 0; i < count; i++) {
                for (int k = 0; k < tongue.lengths[words[i]]; k++) {
                    into.add(tongue.spelling[words[i]][k]);
                }
            }
        }
    }

    /** Cuts a row of SOUNDS, or of any SOUNDS, into WORDS. */
    private static final class Cutter {
        static final int FIRST = 0;
        static final int SECOND = 1;
        static final int MOST_USED = 2;
        static final int HEARD = 3;

        private static final int AHEAD = KINDS + 1;
        private static final int BUDGETS = MISTAKES_MOST + 1;
        private static final long MODULUS = 1000000007L;
        private static final int FAR = 1 << 28;
        /** One MISTAKE outweighs all USES that a row can have together. */
        private static final int MISTAKE = 10000;
        private static final int UNFIT = -1;

        private final Tongue tongue;
        private int length;
        /** MISTAKES with which a WORD stands at a place, or UNFIT. */
        private final byte[] misses = new byte[SAID_MOST * MOST_WORDS];
        /** The least price from a place on, by the KIND ahead of it. */
        private final int[] least = new int[(SAID_MOST + 1) * AHEAD];
        private final long[] ways = new long[(SAID_MOST + 1) * AHEAD * BUDGETS];
        private int pricing;
        final int[] chosen = new int[SAID_MOST];
        private final int[] places = new int[SAID_MOST];
        int chosenCount;
        int chosenAs = NONE;

        Cutter(Tongue of) {
            tongue = of;
        }

        void forget() {
            chosenAs = NONE;
        }

        void lay(Sounds row) {
            forget();
            length = row.length;
            for (int i = 0; i < length; i++) {
                for (int w = 0; w < tongue.words; w++) {
                    misses[i * MOST_WORDS + w] = (byte) missesAt(row, i, w);
                }
            }
        }

        private int missesAt(Sounds row, int i, int w) {
            int n = tongue.lengths[w];
            if (i + n > row.length) {
                return UNFIT;
            }
            int made = 0;
            for (int k = 0; k < n; k++) {
                int meant = tongue.spelling[w][k];
                int heard = row.row[i + k];
                if (meant != heard) {
                    if (((tongue.like[meant] >> heard) & 1) == 0) {
                        return UNFIT;
                    }
                    made++;
                }
            }
            return made;
        }

        /** Each WORD fits wherever there is room for it. */
        void layAny(int n) {
            forget();
            length = Math.min(n, SAID_MOST);
            for (int i = 0; i < length; i++) {
                for (int w = 0; w < tongue.words; w++) {
                    misses[i * MOST_WORDS + w] = (byte) (i + tongue.lengths[w] > length ? UNFIT : 0);
                }
            }
        }

        /** No WORD may go on over that place. */
        void breakBehind(int place) {
            for (int i = Math.max(0, place - WORD_MOST); i < place && i < length; i++) {
                for (int w = 0; w < tongue.words; w++) {
                    if (i + tongue.lengths[w] > place) {
                        misses[i * MOST_WORDS + w] = (byte) UNFIT;
                    }
                }
            }
        }

        /** How many SENTENCES fit with so many MISTAKES at most. */
        int countWays(int mistakes) {
            for (int i = length; i >= 0; i--) {
                for (int kind = 0; kind < AHEAD; kind++) {
                    for (int budget = 0; budget <= mistakes; budget++) {
                        ways[wayIndex(i, kind, budget)] = waysFrom(i, kind, budget);
                    }
                }
            }
            return (int) ways[wayIndex(0, START, mistakes)];
        }

        private long waysFrom(int i, int kind, int budget) {
            if (i == length) {
                return tongue.mayEnd(kind) ? 1 : 0;
            }
            long sum = 0;
            for (int w = 0; w < tongue.words; w++) {
                int missed = misses[i * MOST_WORDS + w];
                if (missed != UNFIT && missed <= budget && tongue.mayFollow(kind, w)) {
                    sum += ways[wayIndex(i + tongue.lengths[w], tongue.kinds[w], budget - missed)];
                }
            }
            return sum % MODULUS;
        }

        private static int wayIndex(int i, int kind, int budget) {
            return (i * AHEAD + kind) * BUDGETS + budget;
        }

        /** Chooses a CUT: chosenCount is 0 if there is none. */
        void choose(int which) {
            pricing = which;
            for (int i = length; i >= 0; i--) {
                for (int kind = 0; kind < AHEAD; kind++) {
                    least[i * AHEAD + kind] = leastFrom(i, kind);
                }
            }
            chosenCount = 0;
            chooseFrom(0, START);
            if (which == SECOND) {
                turnToSecond();
            }
            chosenAs = which;
        }

        private int leastFrom(int i, int kind) {
            if (i == length) {
                return tongue.mayEnd(kind) ? 0 : FAR;
            }
            int best = FAR;
            for (int w = 0; w < tongue.words; w++) {
                best = Math.min(best, priceThrough(i, kind, w));
            }
            return best;
        }

        /** The least price from a place on, if a WORD stands there; FAR if it can't. */
        private int priceThrough(int i, int kind, int w) {
            int missed = misses[i * MOST_WORDS + w];
            boolean fits = pricing == HEARD ? missed != UNFIT : missed == 0;
            if (!fits || !tongue.mayFollow(kind, w)) {
                return FAR;
            }
            int rest = least[(i + tongue.lengths[w]) * AHEAD + tongue.kinds[w]];
            if (rest == FAR) {
                return FAR;
            }
            // among CUTS that stand in order alone, all cost the same
            boolean byUse = pricing == MOST_USED || pricing == HEARD;
            return byUse ? rest + missed * MISTAKE - tongue.uses[w] : rest;
        }

        private void chooseFrom(int place, int kindAhead) {
            int i = place;
            int kind = kindAhead;
            for (int step = 0; step < SAID_MOST && i < length; step++) {
                int best = least[i * AHEAD + kind];
                if (best == FAR) {
                    return;
                }
                int w = 0;
                while (w < tongue.words - 1 && priceThrough(i, kind, w) != best) {
                    w++;
                }
                choosePut(w, i);
                i += tongue.lengths[w];
                kind = tongue.kinds[w];
            }
        }

        private void choosePut(int w, int place) {
            if (chosenCount < SAID_MOST) {
                chosen[chosenCount] = w;
                places[chosenCount] = place;
                chosenCount++;
            }
        }

        /** The second CUT leaves the first as late as it can, for the least greater WORD. */
        private void turnToSecond() {
            for (int j = chosenCount - 1; j >= 0; j--) {
                int kind = j == 0 ? START : tongue.kinds[chosen[j - 1]];
                for (int w = chosen[j] + 1; w < tongue.words; w++) {
                    if (priceThrough(places[j], kind, w) != FAR) {
                        chosenCount = j;
                        choosePut(w, places[j]);
                        chooseFrom(places[j] + tongue.lengths[w], tongue.kinds[w]);
                        return;
                    }
                }
            }
            chosenCount = 0;
        }

        int chosenAt(int k) {
            return k >= 0 && k < chosenCount ? chosen[k] : NONE;
        }

        int chosenUses() {
            int sum = 0;
            for (int j = 0; j < chosenCount; j++) {
                sum += tongue.uses[chosen[j]];
            }
            return sum;
        }

        int chosenMisses() {
            int sum = 0;
            for (int j = 0; j < chosenCount; j++) {
                sum += misses[places[j] * MOST_WORDS + chosen[j]];
            }
            return sum;
        }
    }

    /** Says SENTENCES through NOISE. */
    private static final class Noise {
        private final Tongue tongue;
        private final Cutter cutter;
        final Sounds come = new Sounds();
        int seed;
        /** How many MISTAKES were made. */
        int made;

        Noise(Tongue of, Cutter by) {
            tongue = of;
            cutter = by;
        }

        private int draw() {
            seed = 1103515245 * seed + 12345;
            return seed >>> 16;
        }

        void carry(Sounds sent, int hundredths) {
            made = 0;
            come.length = 0;
            for (int i = 0; i < sent.length; i++) {
                int sound = sent.row[i];
                int others = tongue.like[sound];
                if (others != 0 && draw() % 100 < hundredths) {
                    sound = pick(others, draw() % Integer.bitCount(others));
                    made++;
                }
                come.add((byte) sound);
            }
        }

        private static int pick(int others, int which) {
            int left = which;
            for (int sound = 0; sound < MOST_SOUNDS; sound++) {
                if (((others >> sound) & 1) != 0) {
                    if (left == 0) {
                        return sound;
                    }
                    left--;
                }
            }
            return 0;
        }

        /** Whether what is HEARD of what came is that SENTENCE. */
        boolean isUnderstood(Verdict sentence) {
            cutter.lay(come);
            cutter.choose(Cutter.HEARD);
            if (cutter.chosenCount != sentence.count) {
                return false;
            }
            for (int i = 0; i < sentence.count; i++) {
                if (cutter.chosen[i] != sentence.words[i]) {
                    return false;
                }
            }
            return true;
        }
    }

    /** The least cost to make a row of SOUNDS a WORD, or one of a SHAPE. */
    private static final class Measure {
        private static final int ONE_MORE = 2;

        /** The SOUNDS (bits) that may stand at each place of what is to be made. */
        private final int[] wanted = new int[WORD_MOST];
        private final int[] costs = new int[WORD_MOST + 1];

        int toWord(Tongue tongue, byte[] row, int n, int w) {
            for (int i = 0; i < tongue.lengths[w]; i++) {
                wanted[i] = 1 << tongue.spelling[w][i];
            }
            return leastCost(tongue, row, n, tongue.lengths[w]);
        }

        int toShape(Tongue tongue, byte[] row, int n, int shape) {
            int shut = ~tongue.open & ((1 << tongue.sounds) - 1);
            for (int i = 0; i < tongue.shapeLengths[shape]; i++) {
                wanted[i] = ((tongue.shapeBits[shape] >> i) & 1) != 0 ? tongue.open : shut;
            }
            return leastCost(tongue, row, n, tongue.shapeLengths[shape]);
        }

        private int leastCost(Tongue tongue, byte[] row, int n, int wantedLength) {
            for (int j = 0; j <= wantedLength; j++) {
                costs[j] = j * ONE_MORE;
            }
            for (int i = 0; i < n; i++) {
                int corner = costs[0];
                costs[0] = (i + 1) * ONE_MORE;
                for (int j = 0; j < wantedLength; j++) {
                    int instead = corner + costInstead(tongue, row[i], wanted[j]);
                    int moved = Math.min(costs[j], costs[j + 1]) + ONE_MORE;
                    corner = costs[j + 1];
                    costs[j + 1] = Math.min(instead, moved);
                }
            }
            return costs[wantedLength];
        }

        private static int costInstead(Tongue tongue, int sound, int among) {
            if (((among >> sound) & 1) != 0) {
                return 0;
            }
            return (tongue.like[sound] & among) != 0 ? 1 : 2;
        }
    }

    /**
     * Looks for two unlike SENTENCES that can be heard as the same SOUNDS.
     *
     * Two are told WORD by WORD, always one more to that which is behind; so a state is the WORD that stands
     * out, how much of it does, the KIND of the other's last WORD, and the MISTAKES of both. Any row of WORDS
     * at the end of a SENTENCE is one itself: two that differ can do so from their first WORD on.
     */
    private static final class Twins {
        private static final int TWIN_WORDS = MOST_WORDS + 1;
        private static final int TWIN_MOST = WORD_MOST + 1;
        /** A stop, which is no SOUND and like none. */
        private static final int PAUSE = MOST_SOUNDS;
        private static final int AHEAD = KINDS + 1;
        private static final int EVENS = KINDS * KINDS;
        private static final int PLACES = EVENS + TWIN_WORDS * TWIN_MOST * AHEAD;
        private static final int COSTS_MOST = (MISTAKES_MOST + 1) * (MISTAKES_MOST + 1);
        private static final int STATES_MOST = PLACES * COSTS_MOST;
        private static final int SPAN_MOST = (STATES_MOST + 63) / 64;
        /** A step goes on by TWIN_MOST SOUNDS at most: as many lengths may wait, beside that at hand. */
        private static final int WAITING = TWIN_MOST + 1;
        private static final int LENGTHS_MOST = STATES_MOST * TWIN_MOST;

        private static final int USELESS = 0;
        private static final int USEFUL = 1;
        private static final int TAKEN = 2;

        private int words;
        private int active;
        private int ending;
        private final byte[][] spelling = new byte[TWIN_WORDS][TWIN_MOST];
        private final int[] lengths = new int[TWIN_WORDS];
        private final int[] kinds = new int[TWIN_WORDS];
        private final int[] follow = new int[KINDS];
        private final int[] like = new int[MOST_SOUNDS + 1];
        /** WORDS (bits) that may stand behind a KIND. */
        private final int[] after = new int[KINDS];

        private int most;
        /** How many unlike pairs of MISTAKES there are; it divides, so it is never 0. */
        private int costs = 1;
        private int span;
        private int waiting;
        private int scanned;
        private final long[] pending = new long[WAITING * SPAN_MOST];
        private final long[] seen = new long[SPAN_MOST];

        /** Without MISTAKES: the states in the order in which they came, and at which length. */
        private int visited;
        private final short[] order = new short[PLACES];
        private final short[] reached = new short[PLACES];
        private final byte[] marks = new byte[PLACES];

        /** Takes all WORDS of a TONGUE, with a stop behind each of some KINDS (bits). */
        void load(Tongue tongue, int stopped) {
            words = tongue.words;
            active = (1 << words) - 1;
            ending = tongue.ending;
            System.arraycopy(tongue.like, 0, like, 0, MOST_SOUNDS);
            System.arraycopy(tongue.follow, 0, follow, 0, KINDS);
            for (int w = 0; w < words; w++) {
                put(w, tongue.spelling[w], tongue.lengths[w], tongue.kinds[w]);
                if (((stopped >> kinds[w]) & 1) != 0) {
                    spelling[w][lengths[w]] = PAUSE;
                    lengths[w]++;
                }
            }
        }

        void put(int w, byte[] row, int n, int kind) {
            System.arraycopy(row, 0, spelling[w], 0, n);
            lengths[w] = n;
            kinds[w] = kind;
        }

        void putOneMore(byte[] row, int n, int kind) {
            put(words, row, n, kind);
            active |= 1 << words;
        }

        void putSound(int w, int place, int sound) {
            spelling[w][place] = (byte) sound;
        }

        void leaveOut(int bits) {
            active = ((1 << words) - 1) & ~bits;
        }

        /** The least number of SOUNDS of two that are heard as one, or NONE. */
        int shortest(int mistakes) {
            begin(mistakes);
            for (int length = 0; length < LENGTHS_MOST && waiting > 0; length++) {
                scanned = 0;
                int state = pop(length);
                for (int n = 0; n < STATES_MOST && state != NONE; n++) {
                    if (isLast(state)) {
                        return length;
                    }
                    visit(state, length);
                    state = pop(length);
                }
            }
            return NONE;
        }

        private void begin(int mistakes) {
            most = mistakes;
            costs = (most + 1) * (most + 1);
            span = (PLACES * costs + 63) / 64;
            waiting = 0;
            visited = 0;
            Arrays.fill(seen, 0, span, 0L);
            for (int slot = 0; slot < WAITING; slot++) {
                Arrays.fill(pending, slot * SPAN_MOST, slot * SPAN_MOST + span, 0L);
            }
            Arrays.fill(after, 0);
            for (int w = 0; w < TWIN_WORDS; w++) {
                if (((active >> w) & 1) != 0) {
                    allow(w);
                    push(oddState(w, lengths[w], START, 0), 0);
                }
            }
        }

        private void allow(int w) {
            for (int kind = 0; kind < KINDS; kind++) {
                if (((follow[kind] >> kinds[w]) & 1) != 0) {
                    after[kind] |= 1 << w;
                }
            }
        }

        private void push(int state, int length) {
            int slot = (length % WAITING) * SPAN_MOST + (state >> 6);
            long bit = 1L << (state & 63);
            if ((seen[state >> 6] & bit) == 0 && (pending[slot] & bit) == 0) {
                pending[slot] |= bit;
                waiting++;
            }
        }

        /**
         * Takes the next state of one length, or NONE.
         *
         * Even states stand ahead of odd ones: those odd ones that they wake at the same length come later.
         */
        private int pop(int length) {
            int base = (length % WAITING) * SPAN_MOST;
            for (int n = 0; n < 2 * STATES_MOST && scanned < span; n++) {
                long bit = Long.lowestOneBit(pending[base + scanned]);
                if (bit == 0) {
                    scanned++;
                } else {
                    pending[base + scanned] &= ~bit;
                    waiting--;
                    if ((seen[scanned] & bit) == 0) {
                        seen[scanned] |= bit;
                        return scanned * 64 + Long.numberOfTrailingZeros(bit);
                    }
                }
            }
            return NONE;
        }

        private void visit(int state, int length) {
            if (most == 0 && visited < PLACES) {
                order[visited] = (short) state;
                reached[state] = (short) length;
                visited++;
            }
            if (isEven(state)) {
                int place = state / costs;
                for (int bits = after[place / KINDS]; bits != 0; bits &= bits - 1) {
                    int w = Integer.numberOfTrailingZeros(bits);
                    push(oddState(w, lengths[w], place % KINDS, state % costs), length);
                }
                return;
            }
            for (int bits = nextWords(state); bits != 0; bits &= bits - 1) {
                meet(state, Integer.numberOfTrailingZeros(bits), length);
            }
        }

        /** The WORDS that may come next to the SENTENCE that is behind. */
        private int nextWords(int state) {
            int kind = kindBehind(state);
            // two begin with unlike WORDS; which of them is which is all the same
            return kind == START ? active & ((1 << wordOut(state)) - 1) : after[kind];
        }

        /** Puts a WORD to the SENTENCE that is behind, with all MISTAKES by which it can be heard so. */
        private void meet(int state, int v, int length) {
            int w = wordOut(state);
            int out = lengthOut(state);
            int made = state % costs;
            int ofOut = made / (most + 1);
            int ofBehind = made % (most + 1);
            int shared = Math.min(out, lengths[v]);
            int either = 0;
            int both = 0;
            for (int i = 0; i < shared; i++) {
                int x = spelling[w][lengths[w] - out + i];
                int y = spelling[v][i];
                if (x != y) {
                    if (((like[x] >> y) & 1) != 0) {
                        either++;
                    } else if ((like[x] & like[y]) != 0) {
                        both++;
                    } else {
                        return;
                    }
                    if (either + 2 * both > 2 * most) {
                        return;
                    }
                }
            }
            for (int i = 0; i <= either; i++) {
                int nowOut = ofOut + both + i;
                int nowBehind = ofBehind + both + either - i;
                if (nowOut <= most && nowBehind <= most) {
                    push(joined(w, out, v, nowOut, nowBehind), length + shared);
                }
            }
        }

        private int joined(int w, int out, int v, int ofOut, int ofBehind) {
            int left = out - lengths[v];
            if (left > 0) {
                return oddState(w, left, kinds[v], ofOut * (most + 1) + ofBehind);
            }
            if (left < 0) {
                return oddState(v, -left, kinds[w], ofBehind * (most + 1) + ofOut);
            }
            if (kinds[w] <= kinds[v]) {
                return evenState(kinds[w], kinds[v], ofOut * (most + 1) + ofBehind);
            }
            return evenState(kinds[v], kinds[w], ofBehind * (most + 1) + ofOut);
        }

        private int evenState(int kind, int other, int made) {
            return (kind * KINDS + other) * costs + made;
        }

        private int oddState(int w, int out, int kind, int made) {
            return (EVENS + (w * TWIN_MOST + out - 1) * AHEAD + kind) * costs + made;
        }

        private boolean isEven(int state) {
            return state < EVENS * costs;
        }

        private boolean isLast(int state) {
            int place = state / costs;
            return isEven(state) && ((ending >> (place / KINDS)) & (ending >> (place % KINDS)) & 1) != 0;
        }

        private int wordOut(int state) {
            return (state / costs - EVENS) / (AHEAD * TWIN_MOST);
        }

        private int lengthOut(int state) {
            return (state / costs - EVENS) / AHEAD % TWIN_MOST + 1;
        }

        private int kindBehind(int state) {
            return (state / costs - EVENS) % AHEAD;
        }

        /** Behind shortest(0): marks the states by which two SENTENCES of that length are found. */
        void markUseful(int length) {
            Arrays.fill(marks, (byte) USELESS);
            for (int i = visited - 1; i >= 0; i--) {
                if (leadsToEnd(order[i], length)) {
                    marks[order[i]] = (byte) USEFUL;
                }
            }
        }

        /**
         * Behind markUseful(): the first line of that length that two SENTENCES are said as.
         *
         * What stands out tells the line's SOUNDS; of the useful states those are kept, SOUND by SOUND, that
         * tell the least one.
         */
        void firstLine(byte[] into, int length) {
            for (int w = 0; w < TWIN_WORDS; w++) {
                if (((active >> w) & 1) != 0) {
                    take(oddState(w, lengths[w], START, 0), 0);
                }
            }
            for (int i = 0; i < length && i < into.length; i++) {
                wakeFromEven(i);
                int sound = leastSoundAt(i);
                into[i] = (byte) sound;
                for (int j = 0; j < visited; j++) {
                    int told = toldAt(order[j], i);
                    if (told != NONE && told != sound) {
                        marks[order[j]] = (byte) USELESS;
                    } else if (told != NONE) {
                        wakeNext(order[j], i + 1);
                    }
                }
            }
        }

        private boolean leadsToEnd(int state, int length) {
            if (isEven(state)) {
                return isLast(state) || evenLeadsOn(state);
            }
            for (int bits = nextWords(state); bits != 0; bits &= bits - 1) {
                int v = Integer.numberOfTrailingZeros(bits);
                int next = plainMeet(state, v);
                int then = reached[state] + Math.min(lengthOut(state), lengths[v]);
                if (next != NONE && (isLast(next) ? then == length : isUseful(next, then))) {
                    return true;
                }
            }
            return false;
        }

        private boolean evenLeadsOn(int state) {
            for (int bits = after[state / KINDS]; bits != 0; bits &= bits - 1) {
                int w = Integer.numberOfTrailingZeros(bits);
                if (isUseful(oddState(w, lengths[w], state % KINDS, 0), reached[state])) {
                    return true;
                }
            }
            return false;
        }

        private boolean isUseful(int state, int length) {
            return marks[state] != USELESS && reached[state] == length;
        }

        /** Without MISTAKES: the state behind a WORD more, or NONE. */
        private int plainMeet(int state, int v) {
            int w = wordOut(state);
            int out = lengthOut(state);
            int shared = Math.min(out, lengths[v]);
            for (int i = 0; i < shared; i++) {
                if (spelling[w][lengths[w] - out + i] != spelling[v][i]) {
                    return NONE;
                }
            }
            return joined(w, out, v, 0, 0);
        }

        private void take(int state, int length) {
            if (isUseful(state, length)) {
                marks[state] = (byte) TAKEN;
            }
        }

        private void wakeFromEven(int length) {
            for (int state = 0; state < EVENS; state++) {
                if (marks[state] == TAKEN && reached[state] == length) {
                    for (int bits = after[state / KINDS]; bits != 0; bits &= bits - 1) {
                        int w = Integer.numberOfTrailingZeros(bits);
                        take(oddState(w, lengths[w], state % KINDS, 0), length);
                    }
                }
            }
        }

        /** The SOUND that a taken state tells for a place of the line, or NONE. */
        private int toldAt(int state, int i) {
            if (isEven(state) || marks[state] != TAKEN) {
                return NONE;
            }
            int k = i - reached[state];
            int out = lengthOut(state);
            int w = wordOut(state);
            return k >= 0 && k < out ? spelling[w][lengths[w] - out + k] : NONE;
        }

        private int leastSoundAt(int i) {
            int sound = MOST_SOUNDS;
            for (int j = 0; j < visited; j++) {
                int told = toldAt(order[j], i);
                if (told != NONE && told < sound) {
                    sound = told;
                }
            }
            return sound;
        }

        private void wakeNext(int state, int length) {
            for (int bits = nextWords(state); bits != 0; bits &= bits - 1) {
                int v = Integer.numberOfTrailingZeros(bits);
                if (reached[state] + Math.min(lengthOut(state), lengths[v]) == length) {
                    int next = plainMeet(state, v);
                    if (next != NONE) {
                        take(next, length);
                    }
                }
            }
        }
    }

    /** What makes a TONGUE SURE, or keeps it so; each answer is looked for once for a TONGUE. */
    private static final class Mender {
        private static final int UNKNOWN = -2;
        /** Each state of Twins without MISTAKES comes once, and goes on by at most so many SOUNDS. */
        private static final int UNSURE_MOST = Twins.PLACES * WORD_MOST;

        private final Tongue tongue;
        private final Measure measure;
        private final Twins twins = new Twins();
        private final Sounds candidate = new Sounds();
        private final int[] unsureLengths = new int[MISTAKES_MOST + 1];
        private final byte[] unsureLine = new byte[UNSURE_MOST];
        private boolean lineKnown;
        private final boolean[] addedKnown = new boolean[KINDS];
        /** Without SOUNDS: there is none. */
        final Sounds[] addedRows = new Sounds[KINDS];
        final int[] addedCosts = new int[KINDS];
        private int mendedBits;
        private boolean changeKnown;
        int changedWord;
        int changedPlace;
        int changedSound;
        private int pausedBits;

        Mender(Tongue of, Measure by) {
            tongue = of;
            measure = by;
            for (int kind = 0; kind < KINDS; kind++) {
                addedRows[kind] = new Sounds();
            }
            forget();
        }

        void forget() {
            Arrays.fill(unsureLengths, UNKNOWN);
            lineKnown = false;
            for (int kind = 0; kind < KINDS; kind++) {
                addedKnown[kind] = false;
            }
            mendedBits = UNKNOWN;
            changeKnown = false;
            pausedBits = UNKNOWN;
        }

        int leastUnsure(int mistakes) {
            if (unsureLengths[mistakes] == UNKNOWN) {
                twins.load(tongue, 0);
                unsureLengths[mistakes] = twins.shortest(mistakes);
            }
            return unsureLengths[mistakes];
        }

        int unsureSound(int i) {
            if (!lineKnown) {
                twins.load(tongue, 0);
                unsureLengths[0] = twins.shortest(0);
                twins.markUseful(unsureLengths[0]);
                twins.firstLine(unsureLine, unsureLengths[0]);
                lineKnown = true;
            }
            return i >= 0 && i < unsureLengths[0] && i < UNSURE_MOST ? unsureLine[i] : NONE;
        }

        boolean isSureWith(byte[] row, int n, int kind, int mistakes) {
            twins.load(tongue, 0);
            twins.putOneMore(row, n, kind);
            return twins.shortest(mistakes) == NONE;
        }

        /** Shorter rows and lesser SOUNDS come first: a later one must be more unlike. */
        void findAdded(int kind) {
            if (addedKnown[kind]) {
                return;
            }
            addedKnown[kind] = true;
            Sounds best = addedRows[kind];
            best.length = 0;
            addedCosts[kind] = NONE;
            twins.load(tongue, 0);
            int rowsOfLength = 1;
            for (int n = 1; n <= ADDED_MOST; n++) {
                rowsOfLength *= tongue.sounds;
                for (int number = 0; number < rowsOfLength; number++) {
                    spellNumber(number, n);
                    int cost = leastUnlike();
                    if ((best.length == 0 || cost > addedCosts[kind]) && mayBeWord()) {
                        twins.putOneMore(candidate.row, n, kind);
                        if (twins.shortest(0) == NONE) {
                            best.become(candidate);
                            addedCosts[kind] = cost;
                        }
                    }
                }
            }
        }

        /** Rows of n SOUNDS by their numbers stand in order by SOUNDS. */
        private void spellNumber(int number, int n) {
            int rest = number;
            candidate.length = n;
            for (int i = n - 1; i >= 0; i--) {
                candidate.row[i] = (byte) Math.floorMod(rest, Math.max(1, tongue.sounds));
                rest = Math.floorDiv(rest, Math.max(1, tongue.sounds));
            }
        }

        private int leastUnlike() {
            int least = NONE;
            for (int w = 0; w < tongue.words; w++) {
                int cost = measure.toWord(tongue, candidate.row, candidate.length, w);
                if (least == NONE || cost < least) {
                    least = cost;
                }
            }
            return least;
        }

        /** Whether a row is no WORD, and of a SHAPE that is told. */
        private boolean mayBeWord() {
            if (tongue.findWord(candidate.row, candidate.length) != NONE) {
                return false;
            }
            if (tongue.shapes == 0) {
                return true;
            }
            int bits = 0;
            for (int i = 0; i < candidate.length; i++) {
                bits |= ((tongue.open >> candidate.row[i]) & 1) << i;
            }
            for (int shape = 0; shape < tongue.shapes; shape++) {
                if (tongue.shapeLengths[shape] == candidate.length && tongue.shapeBits[shape] == bits) {
                    return true;
                }
            }
            return false;
        }

        /** MENDED as bits, or NONE. */
        int leftOut() {
            if (mendedBits != UNKNOWN) {
                return mendedBits;
            }
            mendedBits = NONE;
            twins.load(tongue, 0);
            for (int few = 0; few <= MENDED_MOST && mendedBits == NONE; few++) {
                for (int bits = 0; bits < 1 << tongue.words && mendedBits == NONE; bits++) {
                    if (Integer.bitCount(bits) == few) {
                        twins.leaveOut(bits);
                        if (twins.shortest(0) == NONE) {
                            mendedBits = bits;
                        }
                    }
                }
            }
            return mendedBits;
        }

        void findChange() {
            if (changeKnown) {
                return;
            }
            changeKnown = true;
            changedWord = NONE;
            changedPlace = NONE;
            changedSound = NONE;
            twins.load(tongue, 0);
            for (int w = 0; w < tongue.words; w++) {
                for (int place = 0; place < tongue.lengths[w]; place++) {
                    for (int sound = 0; sound < tongue.sounds; sound++) {
                        if (!isThereWith(w, place, sound)) {
                            twins.putSound(w, place, sound);
                            if (twins.shortest(0) == NONE) {
                                changedWord = w;
                                changedPlace = place;
                                changedSound = sound;
                                return;
                            }
                        }
                    }
                    twins.putSound(w, place, tongue.spelling[w][place]);
                }
            }
        }

        /** Whether a WORD with another SOUND is a WORD that is there; with its own it is itself. */
        private boolean isThereWith(int w, int place, int sound) {
            int n = tongue.lengths[w];
            System.arraycopy(tongue.spelling[w], 0, candidate.row, 0, n);
            candidate.row[place] = (byte) sound;
            return tongue.findWord(candidate.row, n) != NONE;
        }

        /** PAUSED as bits. */
        int stops() {
            if (pausedBits != UNKNOWN) {
                return pausedBits;
            }
            pausedBits = NONE;
            for (int few = 0; few <= KINDS && pausedBits == NONE; few++) {
                for (int bits = 0; bits < 1 << KINDS && pausedBits == NONE; bits++) {
                    if (Integer.bitCount(bits) == few) {
                        twins.load(tongue, bits);
                        if (twins.shortest(0) == NONE) {
                            pausedBits = bits;
                        }
                    }
                }
            }
            return pausedBits;
        }
    }

    /** What is told of the WORDS of a TONGUE together. */
    private static final class Census {
        private static final int WEIGHTS_MOST = MOST_WORDS + MOST_SOUNDS;

        private final Tongue tongue;
        private final int[] weights = new int[WEIGHTS_MOST];
        private int weightCount;
        private final int[] longestOfKind = new int[KINDS];
        private final int[] soundsTo = new int[KINDS];
        private final int[] soundsOn = new int[KINDS];
        boolean withoutEnd;
        int mostSounds;
        int limbWord;
        int limbLength;

        Census(Tongue of) {
            tongue = of;
        }

        /** The first WORD that a WORD begins, but for itself; NONE. */
        int firstBegunBy(int w) {
            for (int v = 0; v < tongue.words; v++) {
                if (v != w && tongue.begins(tongue.spelling[w], tongue.lengths[w], v)) {
                    return v;
                }
            }
            return NONE;
        }

        /** The least sum for n SOUNDS: always n of the least weights become one. */
        int leastTalk(int n) {
            weightCount = 0;
            for (int w = 0; w < tongue.words; w++) {
                addWeight(tongue.uses[w]);
            }
            if (tongue.words == 1) {
                return weights[0];
            }
            int merged = Math.max(1, n - 1);
            // weights of 0 fill up, so that every step can take n of them
            for (int i = 0; i < n && tongue.words > 0 && (weightCount - 1) % merged != 0; i++) {
                addWeight(0);
            }
            int sum = 0;
            for (int step = 0; step < WEIGHTS_MOST && weightCount > 1; step++) {
                int together = 0;
                for (int i = 0; i < n && weightCount > 0; i++) {
                    together += takeLeast();
                }
                addWeight(together);
                sum += together;
            }
            return sum;
        }

        private void addWeight(int weight) {
            if (weightCount < WEIGHTS_MOST) {
                weights[weightCount] = weight;
                weightCount++;
            }
        }

        private int takeLeast() {
            int least = 0;
            for (int i = 1; i < weightCount; i++) {
                if (weights[i] < weights[least]) {
                    least = i;
                }
            }
            int weight = weights[least];
            weightCount--;
            weights[least] = weights[weightCount];
            return weight;
        }

        /** A SENTENCE of more WORDS than there are KINDS goes through one KIND twice, so it may go on so. */
        void measureSentences() {
            withoutEnd = false;
            mostSounds = NONE;
            Arrays.fill(longestOfKind, 0);
            for (int w = 0; w < tongue.words; w++) {
                int kind = tongue.kinds[w];
                longestOfKind[kind] = Math.max(longestOfKind[kind], tongue.lengths[w]);
            }
            System.arraycopy(longestOfKind, 0, soundsTo, 0, KINDS);
            for (int count = 1; count <= KINDS + 1; count++) {
                int sounds = mostEnding();
                if (sounds > 0 && count > KINDS) {
                    withoutEnd = true;
                } else if (sounds > mostSounds) {
                    mostSounds = sounds;
                }
                goOn();
            }
            if (mostSounds == 0) {
                mostSounds = NONE;
            }
        }

        private int mostEnding() {
            int sounds = 0;
            for (int kind = 0; kind < KINDS; kind++) {
                if (tongue.mayEnd(kind)) {
                    sounds = Math.max(sounds, soundsTo[kind]);
                }
            }
            return sounds;
        }

        /** One WORD more: the most SOUNDS of rows by the KIND of the last, 0 if there are none. */
        private void goOn() {
            Arrays.fill(soundsOn, 0);
            for (int kind = 0; kind < KINDS; kind++) {
                for (int next = 0; next < KINDS; next++) {
                    boolean may = ((tongue.follow[kind] >> next) & 1) != 0;
                    if (may && soundsTo[kind] > 0 && longestOfKind[next] > 0) {
                        soundsOn[next] = Math.max(soundsOn[next], soundsTo[kind] + longestOfKind[next]);
                    }
                }
            }
            System.arraycopy(soundsOn, 0, soundsTo, 0, KINDS);
        }

        /** Unlike beginnings but for the empty one. */
        int countBeginnings() {
            int count = 0;
            for (int w = 0; w < tongue.words; w++) {
                for (int n = 1; n <= tongue.lengths[w]; n++) {
                    if (isNewBeginning(w, n)) {
                        count++;
                    }
                }
            }
            return count;
        }

        private boolean isNewBeginning(int w, int n) {
            for (int v = 0; v < w; v++) {
                if (tongue.begins(tongue.spelling[w], n, v)) {
                    return false;
                }
            }
            return true;
        }

        /** How many WORDS begin with the first n SOUNDS of a WORD. */
        int countSharing(int w, int n) {
            int count = 0;
            for (int v = 0; v < tongue.words; v++) {
                if (tongue.begins(tongue.spelling[w], n, v)) {
                    count++;
                }
            }
            return count;
        }

        void findLimb(int k) {
            limbWord = 0;
            limbLength = 0;
            for (int w = 0; w < tongue.words; w++) {
                for (int n = 1; n <= tongue.lengths[w]; n++) {
                    boolean better = n > limbLength || (n == limbLength && isAheadOfLimb(w));
                    if (better && countSharing(w, n) >= k) {
                        limbWord = w;
                        limbLength = n;
                    }
                }
            }
        }

        private boolean isAheadOfLimb(int w) {
            for (int i = 0; i < limbLength; i++) {
                if (tongue.spelling[w][i] != tongue.spelling[limbWord][i]) {
                    return tongue.spelling[w][i] < tongue.spelling[limbWord][i];
                }
            }
            return false;
        }
    }
}
