import java.util.NoSuchElementException;

/** A directory on blocks; what each call answers stands in the document, promise by promise. */
public final class SteadyShelf {
    public static final int NONE = -1;

    private static final int BLOCKS = 40;
    private static final int SLOTS = 6;
    private static final int SPOTS = BLOCKS * SLOTS;
    private static final int ROWS = 5;
    /** One ROW more than an INDEX keeps: the sixth stands there until the INDEX is split. */
    private static final int ROW_ROOM = ROWS + 1;
    private static final int ROOT = 0;
    private static final int MOST_LEVELS = 2;

    private static final int FREE = 0;
    private static final int LEAF = 1;
    private static final int INDEX = 2;

    /** How many ENTRIES, and how many ROWS, BUILT lays into one BLOCK. */
    private static final int LAID = 4;
    private static final int MOST_BUILT = ROWS * LAID * LAID;
    private static final int STAYING_ENTRIES = 3;
    private static final int STAYING_ROWS = 3;

    private static final int MOST_NODE = 999;
    private static final int MOST_KEY = 65535;
    private static final int MOST_BITS = 12;
    private static final int HASHES = 1 << MOST_BITS;
    private static final int MOST_LETTERS = 8;
    private static final int ALPHABET = 26;
    private static final int MOST_DIGITS = 5;
    private static final int MOST_ACTS = 14;
    private static final int MOST_BYTES = 400;
    private static final int MOST_BATCH = 60;
    private static final int MOST_BEST = 20;
    private static final int READERS = 4;
    private static final int REMEMBERED = 8;

    private static final int DONE = 0;
    private static final int ONE_IS_THERE = 1;
    private static final int INDEX_IS_TORN = 2;
    private static final int THIRD_LEVEL = 3;
    private static final int NOT_FOUND = 4;
    private static final int NO_INDEX = 5;

    /** A NAME is kept as eight bytes, its first letter highest, so that numbers are ordered as NAMES are. */
    private static final long NO_NAME = 0L;
    /** The bit in each byte by which a small letter differs from the great one. */
    private static final long SMALL_LETTERS = 0x2020202020202020L;
    private static final int SMALL_LETTER = 32;

    private static final Act[] ALL_ACTS = Act.values();

    private final Tape tape = new Tape();
    private final Text text = new Text(tape);
    private final Store store = new Store();
    private final Store aheadOfText = new Store();
    private final Store kept = new Store();
    private final History history = new History();
    private final Keeper keeper = new Keeper(store);
    private final Survey survey = new Survey(store, keeper);
    private final Cursor[] cursors = new Cursor[READERS];
    private boolean isKept = false;
    private int refusedBy = DONE;

    public SteadyShelf() {
        for (int k = 0; k < READERS; k++) {
            cursors[k] = new Cursor();
        }
    }

    public int feed(int a, int b, int c, int d, int e) {
        if (tape.length + 20 > MOST_BYTES) {
            return NONE;
        }
        tape.append(a);
        tape.append(b);
        tape.append(c);
        tape.append(d);
        tape.append(e);
        return tape.length;
    }

    public boolean end(int n) {
        if (n < 0 || n > tape.length) {
            return false;
        }
        tape.length = n;
        return true;
    }

    public int acts() throws IllegalArgumentException {
        text.begin(tape.useUp());
        aheadOfText.copyFrom(store);
        int done = doText();
        if (done == NONE) {
            store.copyFrom(aheadOfText);
            throw new IllegalArgumentException("the text is wrong");
        }
        if (done > 0) {
            refusedBy = DONE;
        }
        history.forget();
        return done;
    }

    public int fault() {
        return text.wrongByte;
    }

    public int why() {
        return refusedBy;
    }

    public int put(int node) throws IllegalArgumentException, IllegalStateException {
        int length = tape.useUp();
        if (node < 0 || node > MOST_NODE) {
            throw new IllegalArgumentException("no NODE");
        }
        long name = nameTold(length);
        return doByCall(Act.PUT, name, NO_NAME, node);
    }

    public int cut() throws IllegalArgumentException, IllegalStateException {
        long name = nameTold(tape.useUp());
        return doByCall(Act.CUT, name, NO_NAME, 0);
    }

    public int turn() throws IllegalArgumentException, IllegalStateException {
        text.begin(tape.useUp());
        long name = text.readName();
        long other = text.readName();
        if (!text.isRightlyOver()) {
            throw new IllegalArgumentException("the text is wrong");
        }
        return doByCall(Act.TURN, name, other, 0);
    }

    public int build() throws IllegalStateException {
        return doByCall(Act.BUILD, NO_NAME, NO_NAME, 0);
    }

    public int tune(int what, int n) throws NoSuchElementException, IllegalArgumentException, IllegalStateException {
        if (what < 0 || what > 2) {
            throw new NoSuchElementException("no such what");
        }
        if (what == 2 && (n < 0 || n > 1)) {
            throw new IllegalArgumentException("no FOLD");
        }
        Act act = what == 0 ? Act.BITS : what == 1 ? Act.KEY : n == 1 ? Act.FOLD : Act.PLAIN;
        if (act.takesNumber() && (n < act.least || n > act.most)) {
            throw new IllegalArgumentException("no BITS, or no KEY");
        }
        return doByCall(act, NO_NAME, NO_NAME, n);
    }

    public int tear(int block) throws IndexOutOfBoundsException, IllegalStateException {
        if (!isBlock(block)) {
            throw new IndexOutOfBoundsException("no such BLOCK");
        }
        return doByCall(Act.TEAR, NO_NAME, NO_NAME, block);
    }

    public int undo() throws IllegalStateException {
        if (history.size == 0) {
            throw new IllegalStateException("no ACT is remembered");
        }
        history.takeBack(store);
        return history.size;
    }

    public int find(int what) throws NoSuchElementException, IllegalArgumentException {
        int length = tape.useUp();
        if (what < 0 || what > 8) {
            throw new NoSuchElementException("no such what");
        }
        long name = nameTold(length);
        return what <= 3 ? keeper.whereabouts(name, what) : survey.ofName(name, what);
    }

    public int way(int k) throws IllegalArgumentException {
        long name = nameTold(tape.useUp());
        keeper.trace(store.hashOf(name));
        return keeper.way.blockAt(k);
    }

    public int block(int block, int what) throws IndexOutOfBoundsException, NoSuchElementException {
        if (!isBlock(block)) {
            throw new IndexOutOfBoundsException("no such BLOCK");
        }
        switch (what) {
            case 0:
                return store.kinds[block];
            case 1:
                return store.kinds[block] == INDEX ? store.rowCounts[block] : store.entriesIn(block);
            case 2:
                return store.torn[block];
            default:
                throw new NoSuchElementException("no such what");
        }
    }

    public int entry(int block, int slot, int what) throws IndexOutOfBoundsException, NoSuchElementException {
        if (!isBlock(block) || !isSlot(slot)) {
            throw new IndexOutOfBoundsException("no such BLOCK, or no such SLOT");
        }
        if (what < 0 || what > 2) {
            throw new NoSuchElementException("no such what");
        }
        int spot = block * SLOTS + slot;
        long name = store.names[spot];
        if (name == NO_NAME) {
            return NONE;
        }
        return what == 0 ? store.nodes[spot] : what == 1 ? store.hashes[spot] : lettersOf(name);
    }

    public int letter(int block, int slot, int k) throws IndexOutOfBoundsException {
        if (!isBlock(block) || !isSlot(slot)) {
            throw new IndexOutOfBoundsException("no such BLOCK, or no such SLOT");
        }
        long name = store.names[block * SLOTS + slot];
        return k >= 0 && k < lettersOf(name) ? codeAt(name, k) : NONE;
    }

    public int row(int block, int row, int what) throws IndexOutOfBoundsException, NoSuchElementException {
        if (!isBlock(block) || row < 0 || row >= store.rowCounts[block]) {
            throw new IndexOutOfBoundsException("no such BLOCK, no INDEX, or no such ROW");
        }
        int at = block * ROW_ROOM + row;
        switch (what) {
            case 0:
                return store.limits[at];
            case 1:
                return store.marks[at];
            case 2:
                return store.targets[at];
            default:
                throw new NoSuchElementException("no such what");
        }
    }

    public int leaf(int k) {
        keeper.order.gather(store);
        return k >= 0 && k < keeper.order.size ? keeper.order.leaves[k] : NONE;
    }

    public int shape(int what) throws NoSuchElementException {
        if (what < 0 || what > 8) {
            throw new NoSuchElementException("no such what");
        }
        return survey.ofAll(what);
    }

    public int crowds(int key) throws IllegalArgumentException {
        if (!isKey(key)) {
            throw new IllegalArgumentException("no KEY");
        }
        return survey.crowdBy(key);
    }

    public int best(int key, int n) throws IllegalArgumentException {
        if (!isKey(key) || n < 1 || n > MOST_BEST) {
            throw new IllegalArgumentException("no KEY, or n is none");
        }
        return survey.leastCrowdedKey(key, n);
    }

    public boolean open(int reader, boolean is) throws IndexOutOfBoundsException {
        if (!isReader(reader)) {
            throw new IndexOutOfBoundsException("no such READER");
        }
        Cursor cursor = cursors[reader];
        boolean was = cursor.isOpen;
        if (is) {
            cursor.restart();
        } else {
            cursor.isOpen = false;
        }
        return was;
    }

    public int next(int reader) throws IndexOutOfBoundsException, IllegalStateException {
        if (!isReader(reader)) {
            throw new IndexOutOfBoundsException("no such READER");
        }
        Cursor cursor = cursors[reader];
        if (!cursor.isOpen) {
            throw new IllegalStateException("the READER is not OPEN");
        }
        int hash = store.leastHashFrom(cursor.cookie);
        keeper.poolOfHash(hash);
        cursor.take(keeper.pool, hash);
        return keeper.pool.size;
    }

    public int reader(int reader, int what) throws IndexOutOfBoundsException, NoSuchElementException {
        if (!isReader(reader)) {
            throw new IndexOutOfBoundsException("no such READER");
        }
        Cursor cursor = cursors[reader];
        switch (what) {
            case 0:
                return cursor.isOpen ? 1 : 0;
            case 1:
                return cursor.cookie;
            case 2:
                return cursor.listed;
            case 3:
                return cursor.size;
            default:
                throw new NoSuchElementException("no such what");
        }
    }

    public int batch(int reader, int k) throws IndexOutOfBoundsException {
        if (!isReader(reader)) {
            throw new IndexOutOfBoundsException("no such READER");
        }
        Cursor cursor = cursors[reader];
        return k >= 0 && k < cursor.size ? cursor.nodes[k] : NONE;
    }

    public void image() {
        kept.copyFrom(store);
        isKept = true;
    }

    public boolean back() {
        if (!isKept) {
            return false;
        }
        store.copyFrom(kept);
        history.forget();
        closeReaders();
        return true;
    }

    public int count(int what) {
        switch (what) {
            case 0:
                return store.entriesInAll();
            case 1:
                return BLOCKS - store.blocksOfKind(FREE);
            case 2:
                return store.levels;
            case 3:
                return store.blocksOfKind(LEAF);
            case 4:
                return store.tornIndexes();
            case 5:
                return store.bits;
            case 6:
                return store.key;
            case 7:
                return store.fold ? 1 : 0;
            case 8:
                return history.size;
            default:
                return NONE;
        }
    }

    private static boolean isBlock(int block) {
        return block >= 0 && block < BLOCKS;
    }

    private static boolean isSlot(int slot) {
        return slot >= 0 && slot < SLOTS;
    }

    private static boolean isReader(int reader) {
        return reader >= 0 && reader < READERS;
    }

    private static boolean isKey(int key) {
        return key >= 0 && key <= MOST_KEY;
    }

    private static int codeAt(long name, int k) {
        return (int) (name >>> (8 * (MOST_LETTERS - 1 - k))) & 255;
    }

    private static int lettersOf(long name) {
        int letters = 0;
        for (int k = 0; k < MOST_LETTERS; k++) {
            if (codeAt(name, k) != 0) {
                letters++;
            }
        }
        return letters;
    }

    private static int stirred(int h, int code) {
        int sum = (31 * h + code) & 65535;
        return sum ^ (sum >> 7);
    }

    private static int hashBy(long name, int key, int bits, boolean fold) {
        int h = key;
        for (int k = 0; k < MOST_LETTERS; k++) {
            int code = codeAt(name, k);
            if (code == 0) {
                break;
            }
            h = stirred(h, fold ? code | SMALL_LETTER : code);
        }
        return h & ((1 << bits) - 1);
    }

    private static boolean areOne(long name, long other, boolean fold) {
        return fold ? (name | SMALL_LETTERS) == (other | SMALL_LETTERS) : name == other;
    }

    /** How many groups of LAID things there are, the last one with what is left. */
    private static int groupsOf(int things) {
        return (things + LAID - 1) / LAID;
    }

    private long nameTold(int length) {
        text.begin(length);
        long name = text.readName();
        if (!text.isRightlyOver()) {
            throw new IllegalArgumentException("the text is wrong");
        }
        return name;
    }

    private int doByCall(Act act, long name, long other, int n) {
        refusedBy = keeper.refusalOf(act, name, other, n);
        if (refusedBy != DONE) {
            throw new IllegalStateException("the ACT is refused");
        }
        history.remember(store);
        int answer = keeper.carryOut(act, name, other, n);
        if (act.tunes) {
            closeReaders();
        }
        return answer;
    }

    /** How many ACTS of the text were done, or NONE, if it is wrong; READERS are closed by a right one alone. */
    private int doText() {
        if (text.isOver()) {
            return 0;
        }
        boolean tuned = false;
        for (int done = 1; done <= MOST_ACTS; done++) {
            if (!text.readAct()) {
                return NONE;
            }
            int refusal = keeper.refusalOf(text.act, text.name, text.other, text.number);
            if (refusal != DONE) {
                refusedBy = refusal;
                text.markWrong(text.firstWord);
                return NONE;
            }
            keeper.carryOut(text.act, text.name, text.other, text.number);
            tuned = tuned || text.act.tunes;
            if (!text.passSemicolon()) {
                return endText(tuned, done);
            }
        }
        text.skipBlanks();
        text.markWrong(text.at);
        return NONE;
    }

    private int endText(boolean tuned, int done) {
        if (!text.isRightlyOver()) {
            return NONE;
        }
        if (tuned) {
            closeReaders();
        }
        return done;
    }

    private void closeReaders() {
        for (int k = 0; k < READERS; k++) {
            cursors[k].isOpen = false;
        }
    }

    /** The ACTS with their first words, and with what comes behind these: NAMES, then a number, if most is not NONE. */
    private enum Act {
        PUT("put", 1, 0, MOST_NODE, false),
        CUT("cut", 1, 0, NONE, false),
        TURN("turn", 2, 0, NONE, false),
        BITS("bits", 0, 1, MOST_BITS, true),
        KEY("key", 0, 0, MOST_KEY, true),
        FOLD("fold", 0, 0, NONE, true),
        PLAIN("plain", 0, 0, NONE, true),
        TEAR("tear", 0, 0, BLOCKS - 1, false),
        BUILD("build", 0, 0, NONE, false);

        final String word;
        final int nameCount;
        final int least;
        final int most;
        final boolean tunes;

        Act(String word, int nameCount, int least, int most, boolean tunes) {
            this.word = word;
            this.nameCount = nameCount;
            this.least = least;
            this.most = most;
            this.tunes = tunes;
        }

        boolean takesNumber() {
            return most != NONE;
        }
    }

    private static final class Tape {
        final int[] bytes = new int[MOST_BYTES];
        int length = 0;

        void append(int four) {
            for (int shift = 24; shift >= 0; shift -= 8) {
                if (length < MOST_BYTES) {
                    bytes[length] = (four >>> shift) & 255;
                    length++;
                }
            }
        }

        int useUp() {
            int used = length;
            length = 0;
            return used;
        }
    }

    /** Reads a text off the TAPE's bytes; once a byte is wrong, the first one stays the wrong one. */
    private static final class Text {
        final Tape tape;
        int length = 0;
        int at = 0;
        int wrongByte = NONE;
        int firstWord = 0;
        Act act = Act.BUILD;
        long name = NO_NAME;
        long other = NO_NAME;
        int number = 0;

        Text(Tape tape) {
            this.tape = tape;
        }

        void begin(int bytes) {
            length = bytes;
            at = 0;
            wrongByte = NONE;
        }

        void markWrong(int place) {
            if (wrongByte == NONE) {
                wrongByte = place;
            }
        }

        void skipBlanks() {
            int begin = at;
            for (int k = begin; k < length && byteAt(k) == ' '; k++) {
                at = k + 1;
            }
        }

        boolean isOver() {
            skipBlanks();
            return at >= length;
        }

        /** Whether nothing was wrong and nothing but blanks is left; what is left otherwise is wrong. */
        boolean isRightlyOver() {
            if (!isOver()) {
                markWrong(at);
            }
            return wrongByte == NONE;
        }

        boolean passSemicolon() {
            if (isOver() || byteAt(at) != ';') {
                return false;
            }
            at++;
            return true;
        }

        /** NO_NAME, if none stands there. */
        long readName() {
            skipBlanks();
            int begin = at;
            int letters = passLetters();
            if (letters < 1 || letters > MOST_LETTERS) {
                markWrong(begin);
                return NO_NAME;
            }
            long packed = NO_NAME;
            for (int k = 0; k < MOST_LETTERS; k++) {
                packed = packed << 8 | (k < letters ? byteAt(begin + k) : 0);
            }
            return packed;
        }

        /** NONE, if there is no number within these bounds. */
        int readNumber(int least, int most) {
            skipBlanks();
            int begin = at;
            int digits = passDigits();
            int value = 0;
            for (int k = 0; k < digits && k < MOST_DIGITS; k++) {
                value = value * 10 + byteAt(begin + k) - '0';
            }
            if (digits < 1 || digits > MOST_DIGITS || value < least || value > most) {
                markWrong(begin);
                return NONE;
            }
            return value;
        }

        /** Reads one ACT with all that belongs to it: false, if it is wrong. */
        boolean readAct() {
            skipBlanks();
            firstWord = at;
            int which = actNumber(firstWord, passLetters());
            if (which == NONE) {
                markWrong(firstWord);
                return false;
            }
            act = ALL_ACTS[which];
            name = act.nameCount > 0 ? readName() : NO_NAME;
            other = act.nameCount > 1 ? readName() : NO_NAME;
            number = act.takesNumber() ? readNumber(act.least, act.most) : 0;
            return wrongByte == NONE;
        }

        private int actNumber(int begin, int letters) {
            for (int k = 0; k < ALL_ACTS.length; k++) {
                if (isWord(ALL_ACTS[k].word, begin, letters)) {
                    return k;
                }
            }
            return NONE;
        }

        private boolean isWord(String word, int begin, int letters) {
            if (letters != word.length()) {
                return false;
            }
            for (int k = 0; k < letters; k++) {
                if (word.charAt(k) != byteAt(begin + k)) {
                    return false;
                }
            }
            return true;
        }

        private int passLetters() {
            int begin = at;
            for (int k = begin; k < length && isLetter(byteAt(k)); k++) {
                at = k + 1;
            }
            return at - begin;
        }

        private int passDigits() {
            int begin = at;
            for (int k = begin; k < length && isDigit(byteAt(k)); k++) {
                at = k + 1;
            }
            return at - begin;
        }

        private int byteAt(int place) {
            return place >= 0 && place < MOST_BYTES ? tape.bytes[place] : 0;
        }

        private static boolean isLetter(int code) {
            return code >= 'A' && code <= 'Z' || code >= 'a' && code <= 'z';
        }

        private static boolean isDigit(int code) {
            return code >= '0' && code <= '9';
        }
    }

    /** All that ACTS change, and that is gone back to; a spot is a BLOCK's number times SLOTS and a SLOT. */
    private static final class Store {
        int bits = 6;
        int key = 1;
        boolean fold = false;
        int levels = 0;
        final int[] kinds = new int[BLOCKS];
        final int[] rowCounts = new int[BLOCKS];
        final int[] torn = new int[BLOCKS];
        final long[] names = new long[SPOTS];
        final int[] nodes = new int[SPOTS];
        final int[] hashes = new int[SPOTS];
        final int[] limits = new int[BLOCKS * ROW_ROOM];
        final int[] marks = new int[BLOCKS * ROW_ROOM];
        final int[] targets = new int[BLOCKS * ROW_ROOM];

        Store() {
            kinds[ROOT] = LEAF;
        }

        void copyFrom(Store that) {
            bits = that.bits;
            key = that.key;
            fold = that.fold;
            levels = that.levels;
            System.arraycopy(that.kinds, 0, kinds, 0, BLOCKS);
            System.arraycopy(that.rowCounts, 0, rowCounts, 0, BLOCKS);
            System.arraycopy(that.torn, 0, torn, 0, BLOCKS);
            System.arraycopy(that.names, 0, names, 0, SPOTS);
            System.arraycopy(that.nodes, 0, nodes, 0, SPOTS);
            System.arraycopy(that.hashes, 0, hashes, 0, SPOTS);
            System.arraycopy(that.limits, 0, limits, 0, BLOCKS * ROW_ROOM);
            System.arraycopy(that.marks, 0, marks, 0, BLOCKS * ROW_ROOM);
            System.arraycopy(that.targets, 0, targets, 0, BLOCKS * ROW_ROOM);
        }

        int hashOf(long name) {
            return hashBy(name, key, bits, fold);
        }

        int entriesIn(int block) {
            int entries = 0;
            for (int slot = 0; slot < SLOTS; slot++) {
                if (names[block * SLOTS + slot] != NO_NAME) {
                    entries++;
                }
            }
            return entries;
        }

        int entriesInAll() {
            int entries = 0;
            for (int spot = 0; spot < SPOTS; spot++) {
                if (names[spot] != NO_NAME) {
                    entries++;
                }
            }
            return entries;
        }

        int entriesOfHash(int hash) {
            int entries = 0;
            for (int spot = 0; spot < SPOTS; spot++) {
                if (names[spot] != NO_NAME && hashes[spot] == hash) {
                    entries++;
                }
            }
            return entries;
        }

        /** The least HASH of an ENTRY that is low at least, or NONE. */
        int leastHashFrom(int low) {
            int least = NONE;
            for (int spot = 0; spot < SPOTS; spot++) {
                boolean counts = names[spot] != NO_NAME && hashes[spot] >= low;
                if (counts && (least == NONE || hashes[spot] < least)) {
                    least = hashes[spot];
                }
            }
            return least;
        }

        int blocksOfKind(int kind) {
            int blocks = 0;
            for (int block = 0; block < BLOCKS; block++) {
                if (kinds[block] == kind) {
                    blocks++;
                }
            }
            return blocks;
        }

        int tornIndexes() {
            int indexes = 0;
            for (int block = 0; block < BLOCKS; block++) {
                indexes += torn[block];
            }
            return indexes;
        }

        int emptySlotOf(int block) {
            for (int slot = 0; slot < SLOTS; slot++) {
                if (names[block * SLOTS + slot] == NO_NAME) {
                    return slot;
                }
            }
            return NONE;
        }

        void setEntry(int spot, long name, int node, int hash) {
            names[spot] = name;
            nodes[spot] = node;
            hashes[spot] = hash;
        }

        /** The last BLOCK needs no look: two levels are full with 25 LEAVES and 6 INDEXES, so one is free ahead of it. */
        int takeLeastFree(int kind) {
            int least = BLOCKS - 1;
            for (int block = BLOCKS - 1; block > ROOT; block--) {
                if (kinds[block] == FREE) {
                    least = block;
                }
            }
            kinds[least] = kind;
            return least;
        }

        void freeAll() {
            for (int block = 0; block < BLOCKS; block++) {
                kinds[block] = FREE;
                rowCounts[block] = 0;
                torn[block] = 0;
            }
            for (int spot = 0; spot < SPOTS; spot++) {
                names[spot] = NO_NAME;
            }
        }

        /** Lays the pool's ENTRIES from one up to another into the first SLOTS of a LEAF that has no others then. */
        void layLeaf(int block, Pool pool, int from, int to) {
            kinds[block] = LEAF;
            for (int slot = 0; slot < SLOTS; slot++) {
                int k = from + slot;
                if (k < to && k < pool.size) {
                    setEntry(block * SLOTS + slot, pool.names[k], pool.nodes[k], pool.hashes[k]);
                } else {
                    names[block * SLOTS + slot] = NO_NAME;
                }
            }
        }

        void insertRow(int index, int row, int limit, int mark, int target) {
            int base = index * ROW_ROOM;
            for (int k = Math.min(rowCounts[index], ROWS); k > row; k--) {
                copyRow(base + k - 1, base + k);
            }
            limits[base + row] = limit;
            marks[base + row] = mark;
            targets[base + row] = target;
            rowCounts[index] = Math.min(rowCounts[index] + 1, ROW_ROOM);
        }

        void copyRow(int from, int to) {
            limits[to] = limits[from];
            marks[to] = marks[from];
            targets[to] = targets[from];
        }

        /** Copies ROWS from one up to another into a new INDEX. */
        void copyRows(int index, int from, int to, int newIndex) {
            for (int row = from; row < to; row++) {
                copyRow(index * ROW_ROOM + row, newIndex * ROW_ROOM + row - from);
            }
            rowCounts[newIndex] = to - from;
        }

        /** The ROOT becomes an INDEX of two ROWS, one level higher. */
        void raiseRoot(int front, int behind, int limit, int mark) {
            for (int slot = 0; slot < SLOTS; slot++) {
                names[ROOT * SLOTS + slot] = NO_NAME;
            }
            kinds[ROOT] = INDEX;
            rowCounts[ROOT] = 0;
            insertRow(ROOT, 0, 0, 0, front);
            insertRow(ROOT, 1, limit, mark, behind);
            levels++;
        }
    }

    /** ENTRIES by HASH, then by NAME. */
    private static final class Pool {
        final long[] names = new long[SPOTS];
        final int[] nodes = new int[SPOTS];
        final int[] hashes = new int[SPOTS];
        int size = 0;

        void add(long name, int node, int hash) {
            if (size >= SPOTS) {
                return;
            }
            int at = size;
            for (int k = size - 1; k >= 0 && isAhead(hash, name, k); k--) {
                names[k + 1] = names[k];
                nodes[k + 1] = nodes[k];
                hashes[k + 1] = hashes[k];
                at = k;
            }
            names[at] = name;
            nodes[at] = node;
            hashes[at] = hash;
            size++;
        }

        /** 1, if the ENTRY at k goes on with the HASH of the one ahead, as a MARK says. */
        int markAt(int k) {
            return k > 0 && hashes[k] == hashes[k - 1] ? 1 : 0;
        }

        private boolean isAhead(int hash, long name, int k) {
            return hash < hashes[k] || hash == hashes[k] && name < names[k];
        }
    }

    /** LEAVES in order, each with LIMIT and MARK of the ROW that leads to it. */
    private static final class Order {
        final int[] leaves = new int[BLOCKS];
        final int[] limits = new int[BLOCKS];
        final int[] marks = new int[BLOCKS];
        int size = 0;

        void gather(Store store) {
            size = 0;
            if (store.levels == 0) {
                leaves[0] = ROOT;
                limits[0] = 0;
                marks[0] = 0;
                size = 1;
            } else if (store.levels == 1) {
                addRowsOf(store, ROOT);
            } else {
                for (int row = 0; row < store.rowCounts[ROOT]; row++) {
                    addRowsOf(store, store.targets[ROOT * ROW_ROOM + row]);
                }
            }
        }

        /** The place of a LEAF in order; there is one for each LEAF. */
        int placeOf(int block) {
            int place = 0;
            for (int k = 0; k < size; k++) {
                if (leaves[k] == block) {
                    place = k;
                }
            }
            return place;
        }

        private void addRowsOf(Store store, int index) {
            for (int row = 0; row < store.rowCounts[index] && size < BLOCKS; row++) {
                int at = index * ROW_ROOM + row;
                leaves[size] = store.targets[at];
                limits[size] = store.limits[at];
                marks[size] = store.marks[at];
                size++;
            }
        }
    }

    /** The WAY of one HASH: INDEXES, with the ROW taken in each, then LEAVES. */
    private static final class Way {
        final int[] blocks = new int[MOST_LEVELS + BLOCKS];
        final int[] rowsTaken = new int[MOST_LEVELS];
        int indexes = 0;
        int size = 0;

        void trace(Store store, Order order, int hash) {
            indexes = Math.min(store.levels, MOST_LEVELS);
            int block = ROOT;
            for (int level = 0; level < indexes; level++) {
                blocks[level] = block;
                rowsTaken[level] = rowFor(store, block, hash);
                block = store.targets[block * ROW_ROOM + rowsTaken[level]];
            }
            blocks[indexes] = block;
            size = indexes + 1;
            int place = order.placeOf(block) + 1;
            for (int k = place; k < order.size && goesOn(order, k, hash); k++) {
                blocks[size] = order.leaves[k];
                size++;
            }
        }

        int firstLeaf() {
            return blocks[indexes];
        }

        /** The INDEX whose ROWS lead to LEAVES; the ROOT, if it was a LEAF when the WAY was traced. */
        int lowestIndex() {
            return indexes > 0 ? blocks[indexes - 1] : ROOT;
        }

        int blockAt(int k) {
            return k >= 0 && k < size ? blocks[k] : NONE;
        }

        private static boolean goesOn(Order order, int place, int hash) {
            return order.limits[place] == hash && order.marks[place] == 1;
        }

        private static int rowFor(Store store, int index, int hash) {
            int taken = 0;
            for (int row = 0; row < store.rowCounts[index]; row++) {
                int at = index * ROW_ROOM + row;
                int limit = store.limits[at];
                if (limit < hash || limit == hash && store.marks[at] == 0) {
                    taken = row;
                }
            }
            return taken;
        }
    }

    /** Finds NAMES, says why an ACT is refused, and carries out one that is not. */
    private static final class Keeper {
        final Store store;
        final Order order = new Order();
        final Way way = new Way();
        final Pool pool = new Pool();
        int blocksRead = 0;

        Keeper(Store store) {
            this.store = store;
        }

        void trace(int hash) {
            order.gather(store);
            way.trace(store, order, hash);
        }

        /** The spot of the ENTRY whose NAME is ONE with this one, or NONE; and how many BLOCKS were READ for it. */
        int look(long name) {
            if (store.tornIndexes() > 0) {
                return lookEverywhere(name);
            }
            trace(store.hashOf(name));
            blocksRead = way.indexes;
            for (int k = way.indexes; k < way.size; k++) {
                blocksRead++;
                int spot = lookInto(way.blocks[k], name);
                if (spot != NONE) {
                    return spot;
                }
            }
            return NONE;
        }

        private int lookEverywhere(long name) {
            blocksRead = 1;
            for (int block = 0; block < BLOCKS; block++) {
                if (store.kinds[block] == LEAF) {
                    blocksRead++;
                    int spot = lookInto(block, name);
                    if (spot != NONE) {
                        return spot;
                    }
                }
            }
            return NONE;
        }

        private int lookInto(int block, long name) {
            for (int spot = block * SLOTS; spot < block * SLOTS + SLOTS; spot++) {
                if (store.names[spot] != NO_NAME && areOne(store.names[spot], name, store.fold)) {
                    return spot;
                }
            }
            return NONE;
        }

        int whereabouts(long name, int what) {
            int spot = look(name);
            if (what == 1) {
                return blocksRead;
            }
            if (spot == NONE) {
                return NONE;
            }
            return what == 0 ? store.nodes[spot] : what == 2 ? spot / SLOTS : spot % SLOTS;
        }

        int refusalOf(Act act, long name, long other, int n) {
            switch (act) {
                case PUT:
                    return refusalOfPut(name);
                case CUT:
                    return look(name) == NONE ? NOT_FOUND : DONE;
                case TURN:
                    return refusalOfTurn(name, other);
                case TEAR:
                    return store.kinds[n] == INDEX ? DONE : NO_INDEX;
                case FOLD:
                    return isTooMuchToBuild() ? THIRD_LEVEL : wouldFoldMeet() ? ONE_IS_THERE : DONE;
                default:
                    return isTooMuchToBuild() ? THIRD_LEVEL : DONE;
            }
        }

        int refusalOfPut(long name) {
            if (look(name) != NONE) {
                return ONE_IS_THERE;
            }
            if (store.tornIndexes() > 0) {
                return INDEX_IS_TORN;
            }
            return blocksFor(name) == NONE ? THIRD_LEVEL : DONE;
        }

        private int refusalOfTurn(long name, long other) {
            int spot = look(name);
            if (spot == NONE) {
                return NOT_FOUND;
            }
            int otherSpot = look(other);
            if (otherSpot != NONE && otherSpot != spot) {
                return ONE_IS_THERE;
            }
            if (store.tornIndexes() > 0) {
                return INDEX_IS_TORN;
            }
            // The SLOT that CUT leaves empty may be what the other NAME needs.
            long whole = store.names[spot];
            store.names[spot] = NO_NAME;
            int blocks = blocksFor(other);
            store.names[spot] = whole;
            return blocks == NONE ? THIRD_LEVEL : DONE;
        }

        private boolean isTooMuchToBuild() {
            return store.entriesInAll() > MOST_BUILT;
        }

        /** In order, NAMES that FOLD makes ONE stand side by side. */
        private boolean wouldFoldMeet() {
            pool.size = 0;
            for (int spot = 0; spot < SPOTS; spot++) {
                if (store.names[spot] != NO_NAME) {
                    pool.add(store.names[spot] | SMALL_LETTERS, 0, 0);
                }
            }
            for (int k = 1; k < pool.size; k++) {
                if (pool.names[k] == pool.names[k - 1]) {
                    return true;
                }
            }
            return false;
        }

        /** How many BLOCKS a NAME that is not there would take, or NONE for a third level. */
        int blocksFor(long name) {
            trace(store.hashOf(name));
            if (spotOnWay() != NONE) {
                return 0;
            }
            if (store.levels == 0) {
                return 2;
            }
            if (store.rowCounts[way.lowestIndex()] < ROWS) {
                return 1;
            }
            if (store.levels == 1) {
                return 3;
            }
            return store.rowCounts[ROOT] < ROWS ? 2 : NONE;
        }

        private int spotOnWay() {
            for (int k = way.indexes; k < way.size; k++) {
                int slot = store.emptySlotOf(way.blocks[k]);
                if (slot != NONE) {
                    return way.blocks[k] * SLOTS + slot;
                }
            }
            return NONE;
        }

        int carryOut(Act act, long name, long other, int n) {
            switch (act) {
                case PUT:
                    return placeEntry(name, n);
                case CUT:
                    return removeEntry(name);
                case TURN:
                    int node = removeEntry(name);
                    placeEntry(other, node);
                    return node;
                case TEAR:
                    store.torn[n] = 1;
                    return store.tornIndexes();
                case BUILD:
                    layAnew();
                    return BLOCKS - store.blocksOfKind(FREE);
                default:
                    int was = retune(act, n);
                    layAnew();
                    return was;
            }
        }

        private int retune(Act act, int n) {
            int was = store.fold ? 1 : 0;
            if (act == Act.BITS) {
                was = store.bits;
                store.bits = n;
            } else if (act == Act.KEY) {
                was = store.key;
                store.key = n;
            } else {
                store.fold = act == Act.FOLD;
            }
            return was;
        }

        private int removeEntry(long name) {
            int spot = look(name);
            if (spot == NONE) {
                return NONE;
            }
            store.names[spot] = NO_NAME;
            return store.nodes[spot];
        }

        private int placeEntry(long name, int node) {
            int taken = blocksFor(name);
            int spot = spotOnWay();
            int hash = store.hashOf(name);
            if (spot != NONE) {
                store.setEntry(spot, name, node, hash);
            } else if (taken != NONE) {
                poolOfLeaf(way.firstLeaf());
                pool.add(name, node, hash);
                splitLeaf();
                splitIndex();
            }
            return taken;
        }

        private void poolOfLeaf(int block) {
            pool.size = 0;
            for (int spot = block * SLOTS; spot < block * SLOTS + SLOTS; spot++) {
                pool.add(store.names[spot], store.nodes[spot], store.hashes[spot]);
            }
        }

        /** Splits the first LEAF of the WAY into what the pool holds. */
        private void splitLeaf() {
            int limit = pool.hashes[STAYING_ENTRIES];
            int mark = pool.markAt(STAYING_ENTRIES);
            int behind = store.takeLeastFree(LEAF);
            store.layLeaf(behind, pool, STAYING_ENTRIES, pool.size);
            if (way.indexes == 0) {
                int front = store.takeLeastFree(LEAF);
                store.layLeaf(front, pool, 0, STAYING_ENTRIES);
                store.raiseRoot(front, behind, limit, mark);
                return;
            }
            store.layLeaf(way.firstLeaf(), pool, 0, STAYING_ENTRIES);
            store.insertRow(way.lowestIndex(), way.rowsTaken[way.indexes - 1] + 1, limit, mark, behind);
        }

        /** Splits the lowest INDEX of the WAY, if it has a ROW too many. */
        private void splitIndex() {
            int index = way.lowestIndex();
            if (store.rowCounts[index] <= ROWS) {
                return;
            }
            int behind = store.takeLeastFree(INDEX);
            store.copyRows(index, STAYING_ROWS, ROW_ROOM, behind);
            int limit = store.limits[behind * ROW_ROOM];
            int mark = store.marks[behind * ROW_ROOM];
            if (index == ROOT) {
                int front = store.takeLeastFree(INDEX);
                store.copyRows(ROOT, 0, STAYING_ROWS, front);
                store.raiseRoot(front, behind, limit, mark);
            } else {
                store.rowCounts[index] = STAYING_ROWS;
                store.insertRow(ROOT, way.rowsTaken[0] + 1, limit, mark, behind);
            }
        }

        void poolOfHash(int hash) {
            pool.size = 0;
            for (int spot = 0; spot < SPOTS; spot++) {
                if (store.names[spot] != NO_NAME && store.hashes[spot] == hash) {
                    pool.add(store.names[spot], store.nodes[spot], hash);
                }
            }
        }

        private void layAnew() {
            pool.size = 0;
            for (int spot = 0; spot < SPOTS; spot++) {
                if (store.names[spot] != NO_NAME) {
                    pool.add(store.names[spot], store.nodes[spot], store.hashOf(store.names[spot]));
                }
            }
            store.freeAll();
            int leaves = groupsOf(pool.size);
            if (leaves <= 1) {
                store.levels = 0;
                store.layLeaf(ROOT, pool, 0, pool.size);
                return;
            }
            for (int k = 0; k < leaves; k++) {
                store.layLeaf(1 + k, pool, k * LAID, k * LAID + LAID);
            }
            layIndexes(leaves);
        }

        private void layIndexes(int leaves) {
            store.kinds[ROOT] = INDEX;
            if (leaves <= ROWS) {
                store.levels = 1;
                layRows(ROOT, 0, leaves);
                return;
            }
            store.levels = 2;
            int indexes = groupsOf(leaves);
            for (int k = 0; k < indexes; k++) {
                int index = 1 + leaves + k;
                int first = k * LAID;
                store.kinds[index] = INDEX;
                layRows(index, first, Math.min(first + LAID, leaves));
                store.insertRow(ROOT, k, limitOfLaid(first), pool.markAt(first * LAID), index);
            }
        }

        private void layRows(int index, int from, int to) {
            for (int k = from; k < to; k++) {
                store.insertRow(index, k - from, limitOfLaid(k), pool.markAt(k * LAID), 1 + k);
            }
        }

        private int limitOfLaid(int leaf) {
            return leaf == 0 ? 0 : pool.hashes[leaf * LAID];
        }
    }

    /** What is asked of the whole, and of a NAME beside where it lies. */
    private static final class Survey {
        final Store store;
        final Keeper keeper;
        /** How many ENTRIES a HASH has by some KEY, for the HASHES that are tallied; 0 for all others. */
        final int[] tally = new int[HASHES];
        final int[] tallied = new int[SPOTS];
        int tallies = 0;

        Survey(Store store, Keeper keeper) {
            this.store = store;
            this.keeper = keeper;
        }

        int ofName(long name, int what) {
            int hash = store.hashOf(name);
            switch (what) {
                case 4:
                    return hash;
                case 5:
                    return store.entriesOfHash(hash);
                case 6:
                    return roomOnWay(hash);
                case 7:
                    return keeper.refusalOfPut(name) == DONE ? keeper.blocksFor(name) : NONE;
                default:
                    return mateOf(hash);
            }
        }

        int ofAll(int what) {
            keeper.order.gather(store);
            switch (what) {
                case 0:
                    return crowdBy(store.key);
                case 1:
                    return longestChain();
                case 2:
                    return Math.max(1, groupsOf(store.entriesInAll()));
                case 3:
                    return fewestInLeaf();
                case 4:
                    return store.entriesIn(keeper.order.leaves[fullestPlace()]);
                case 5:
                    return fullestPlace();
                case 6:
                    return entriesBehind();
                case 7:
                    return widestIndex();
                default:
                    return leastFreeHash();
            }
        }

        int crowdBy(int key) {
            tallyBy(key);
            int most = 0;
            for (int k = 0; k < tallies; k++) {
                most = Math.max(most, tally[tallied[k]]);
            }
            return most;
        }

        private void tallyBy(int key) {
            for (int k = 0; k < tallies; k++) {
                tally[tallied[k]] = 0;
            }
            tallies = 0;
            for (int spot = 0; spot < SPOTS; spot++) {
                if (store.names[spot] != NO_NAME) {
                    int hash = hashBy(store.names[spot], key, store.bits, store.fold);
                    tally[hash]++;
                    tallied[tallies] = hash;
                    tallies++;
                }
            }
        }

        int leastCrowdedKey(int key, int n) {
            int best = key;
            int least = crowdBy(key);
            for (int k = 1; k < n && key + k <= MOST_KEY; k++) {
                int crowd = crowdBy(key + k);
                if (crowd < least) {
                    least = crowd;
                    best = key + k;
                }
            }
            return best;
        }

        private int roomOnWay(int hash) {
            keeper.trace(hash);
            Way way = keeper.way;
            int room = 0;
            for (int k = way.indexes; k < way.size; k++) {
                room += SLOTS - store.entriesIn(way.blocks[k]);
            }
            return room;
        }

        private int mateOf(int hash) {
            int mask = (1 << store.bits) - 1;
            for (int first = 0; first < ALPHABET; first++) {
                int stirredOnce = stirred(store.key, 'a' + first);
                for (int second = 0; second < ALPHABET; second++) {
                    boolean meets = (stirred(stirredOnce, 'a' + second) & mask) == hash;
                    if (meets && keeper.look(twoLetters('a' + first, 'a' + second)) == NONE) {
                        return ALPHABET * first + second;
                    }
                }
            }
            return NONE;
        }

        private static long twoLetters(int first, int second) {
            return (long) first << 56 | (long) second << 48;
        }

        private int longestChain() {
            int longest = 0;
            for (int spot = 0; spot < SPOTS; spot++) {
                if (store.names[spot] != NO_NAME) {
                    keeper.way.trace(store, keeper.order, store.hashes[spot]);
                    longest = Math.max(longest, keeper.way.size - keeper.way.indexes);
                }
            }
            return longest;
        }

        private int fewestInLeaf() {
            int fewest = SLOTS;
            for (int k = 0; k < keeper.order.size; k++) {
                fewest = Math.min(fewest, store.entriesIn(keeper.order.leaves[k]));
            }
            return fewest;
        }

        private int fullestPlace() {
            int place = 0;
            int most = NONE;
            for (int k = 0; k < keeper.order.size; k++) {
                int entries = store.entriesIn(keeper.order.leaves[k]);
                if (entries > most) {
                    most = entries;
                    place = k;
                }
            }
            return place;
        }

        private int entriesBehind() {
            int entries = 0;
            for (int spot = 0; spot < SPOTS; spot++) {
                if (store.names[spot] != NO_NAME) {
                    keeper.way.trace(store, keeper.order, store.hashes[spot]);
                    if (keeper.way.firstLeaf() != spot / SLOTS) {
                        entries++;
                    }
                }
            }
            return entries;
        }

        private int widestIndex() {
            int widest = NONE;
            int most = 0;
            for (int block = 0; block < BLOCKS; block++) {
                if (store.rowCounts[block] > most) {
                    most = store.rowCounts[block];
                    widest = block;
                }
            }
            return widest;
        }

        private int leastFreeHash() {
            tallyBy(store.key);
            int hashes = 1 << store.bits;
            for (int hash = 0; hash < hashes; hash++) {
                if (tally[hash] == 0) {
                    return hash;
                }
            }
            return NONE;
        }
    }

    /** A READER. */
    private static final class Cursor {
        final int[] nodes = new int[MOST_BATCH];
        boolean isOpen = false;
        int cookie = 0;
        int listed = 0;
        int size = 0;

        void restart() {
            isOpen = true;
            cookie = 0;
            listed = 0;
            size = 0;
        }

        /** All of the pool is LISTED, though the BATCH keeps no more than the first NODES of it. */
        void take(Pool pool, int hash) {
            size = Math.min(pool.size, MOST_BATCH);
            for (int k = 0; k < size; k++) {
                nodes[k] = pool.nodes[k];
            }
            if (pool.size > 0) {
                listed += pool.size;
                cookie = hash + 1;
            }
        }
    }

    /** The states ahead of the latest ACTS by calls; the oldest one makes room. */
    private static final class History {
        final Store[] stores = new Store[REMEMBERED];
        int size = 0;
        int top = 0;

        History() {
            for (int k = 0; k < REMEMBERED; k++) {
                stores[k] = new Store();
            }
        }

        void remember(Store store) {
            stores[top].copyFrom(store);
            top = (top + 1) % REMEMBERED;
            size = Math.min(size + 1, REMEMBERED);
        }

        void takeBack(Store store) {
            top = (top + REMEMBERED - 1) % REMEMBERED;
            store.copyFrom(stores[top]);
            size--;
        }

        void forget() {
            size = 0;
        }
    }
}
