import java.util.Arrays;

/** A store whose files are cut into pieces so that like parts are stored once. */
public final class CutStore {
    /** There is none; it is refused. */
    public static final int NONE = -1;

    private static final int TOO_MUCH = -2;
    private static final int FILES = 8;
    private static final int FILE_BYTES = 600;
    private static final int TAPE_BYTES = 400;
    private static final int FEED_BYTES = 20;
    private static final int MOST_SOWN = 200;
    private static final int BYTE_VALUES = 256;
    private static final int RULES = 6;
    private static final int MOST_PIECE_BYTES = 200;
    private static final int MOST_WINDOW = 16;
    private static final int MOST_BITS = 8;
    private static final int MOST_PIECES = 300;
    private static final int MOST_PRICE = 100;
    private static final int FIRST_SUPER = 1001;
    private static final int MOST_SUPERS = 200;
    // More slots than all FILES have bytes, so that neither table is ever full.
    private static final int SLOT_BITS = 13;
    private static final int SLOTS = 1 << SLOT_BITS;

    private final Files files;
    private final Tape tape;
    private final Rule[] rules;
    private final Cutter cutter;
    private final Cutter otherCutter;
    private final Distinct distinct;
    private final Store store;
    private final Supers latest;
    private int entry;
    private int pointer;

    public CutStore() {
        files = new Files();
        tape = new Tape();
        rules = new Rule[RULES];
        for (int r = 0; r < RULES; r++) {
            rules[r] = new Rule();
        }
        cutter = new Cutter(files);
        otherCutter = new Cutter(files);
        distinct = new Distinct(files);
        store = new Store(files);
        latest = new Supers();
        entry = 8;
        pointer = 2;
    }

    public int feed(int a, int b, int c, int d, int e) {
        if (tape.length + FEED_BYTES > TAPE_BYTES) {
            return NONE;
        }
        tape.addNumber(a);
        tape.addNumber(b);
        tape.addNumber(c);
        tape.addNumber(d);
        tape.addNumber(e);
        return tape.length;
    }

    public boolean end(int n) {
        if (n < 0 || n > tape.length) {
            return false;
        }
        tape.length = n;
        return true;
    }

    public int edit(int f, int place, int gone) {
        if (!isFile(f) || !isWithin(place, 0, files.lengths[f])
                || !isWithin(gone, 0, files.lengths[f] - place)) {
            return NONE;
        }
        if (files.lengths[f] - gone + tape.length > FILE_BYTES) {
            return TOO_MUCH;
        }
        files.replace(f, place, gone, tape);
        tape.length = 0;
        return files.lengths[f];
    }

    public int sow(int f, int n, int seed, int spread) {
        if (!isFile(f) || !isWithin(n, 1, MOST_SOWN) || !isWithin(spread, 1, BYTE_VALUES)
                || files.lengths[f] + n > FILE_BYTES) {
            return NONE;
        }
        int g = seed;
        for (int i = 0; i < n; i++) {
            g = 1103515245 * g + 12345;
            files.addByte(f, (g >>> 8) % spread);
        }
        return files.lengths[f];
    }

    public int copy(int from, int to) {
        if (!isFile(from) || !isFile(to)) {
            return NONE;
        }
        files.duplicate(from, to);
        return files.lengths[to];
    }

    public int at(int f, int i) {
        return isPlace(f, i) ? files.byteAt(f, i) : NONE;
    }

    public boolean fixed(int r, int size) {
        if (!isRule(r) || !isWithin(size, 1, MOST_PIECE_BYTES)) {
            return false;
        }
        rules[r].become(Rule.FIXED, size, size, 0);
        return true;
    }

    public boolean rolling(int r, boolean two, int least, int most, int window, int bits, int mark) {
        if (!isRule(r) || !isMarkRule(least, most, mark)
                || !isWithin(window, 1, MOST_WINDOW) || !isWithin(bits, 0, MOST_BITS)) {
            return false;
        }
        rules[r].become(two ? Rule.TWO : Rule.ROLLING, least, most, mark);
        rules[r].roll(window, bits);
        return true;
    }

    public boolean told(int r, int least, int most, int mark) {
        if (!isRule(r) || !isMarkRule(least, most, mark)) {
            return false;
        }
        rules[r].become(Rule.TOLD, least, most, mark);
        return true;
    }

    public int sum(int r, int f, int i) {
        if (!isSetRule(r) || !rules[r].hasWindow() || !isPlace(f, i)) {
            return NONE;
        }
        cutter.addUp(rules[r], f);
        return cutter.sums[i];
    }

    public int cuts(int r, int f) {
        if (!isSetRule(r) || !isFile(f)) {
            return NONE;
        }
        cutter.divide(rules[r], f);
        return cutter.pieces;
    }

    public int cut(int r, int f, int k) {
        if (!isSetRule(r) || !isFile(f)) {
            return NONE;
        }
        cutter.divide(rules[r], f);
        return isWithin(k, 0, cutter.pieces) ? cutter.begins[k] : NONE;
    }

    public int agree(int r, int f, int g) {
        if (!isSetRule(r) || !isFile(f) || !isFile(g)) {
            return NONE;
        }
        cutter.divide(rules[r], f);
        otherCutter.divide(rules[r], g);
        int most = Math.min(cutter.pieces, otherCutter.pieces);
        int same = 0;
        while (same < most && agreesFromEnd(same)) {
            same++;
        }
        return same;
    }

    public int sent(int r, int f, int g) {
        if (!isSetRule(r) || !isFile(f) || !isFile(g)) {
            return NONE;
        }
        distinct.clear();
        cutter.divide(rules[r], f);
        distinct.addPieces(cutter);
        cutter.divide(rules[r], g);
        return distinct.addPieces(cutter);
    }

    public int cost(int r, int files) {
        return isSetRule(r) ? roomByRule(rules[r], files) : NONE;
    }

    public int best(int files) {
        int best = NONE;
        int least = 0;
        for (int r = 0; r < RULES; r++) {
            if (isSetRule(r)) {
                int room = roomByRule(rules[r], files);
                if (best == NONE || room < least) {
                    best = r;
                    least = room;
                }
            }
        }
        return best;
    }

    // ---- the store

    public int keep(int r, int f) {
        if (!isSetRule(r) || !isFile(f)) {
            return NONE;
        }
        cutter.divide(rules[r], f);
        return store.take(cutter, f);
    }

    public int drop(int f) {
        return isKept(f) ? store.letGo(f) : NONE;
    }

    public int bring(int f) {
        if (!isKept(f)) {
            return NONE;
        }
        store.restore(f);
        return files.lengths[f];
    }

    public int jumps(int f) {
        return isKept(f) ? store.countJumps(f) : NONE;
    }

    public int number(int f, int k) {
        return isKept(f) && isWithin(k, 0, store.keptLengths[f] - 1) ? store.kept[f][k] : NONE;
    }

    public int piece(int p, int what) {
        if (!isWithin(p, 1, MOST_PIECES) || store.holds[p] == 0) {
            return NONE;
        }
        switch (what) {
            case 0: return store.lengths[p];
            case 1: return store.holds[p];
            case 2: return store.prints[p];
            default: return NONE;
        }
    }

    public int count(int what) {
        switch (what) {
            case 0: return store.pieces;
            case 1: return store.used;
            case 2: return store.countNumbers();
            case 3: return roomOf(store.used, store.pieces, store.countNumbers());
            case 4: return store.meetings;
            case 5: return store.countKeptFiles();
            default: return NONE;
        }
    }

    public boolean prices(int entry, int pointer) {
        if (!isWithin(entry, 0, MOST_PRICE) || !isWithin(pointer, 0, MOST_PRICE)) {
            return false;
        }
        this.entry = entry;
        this.pointer = pointer;
        return true;
    }

    public int supers() {
        latest.clear();
        for (int f = 0; f < FILES; f++) {
            if (isKept(f)) {
                latest.addRow(store.kept[f], store.keptLengths[f]);
            }
        }
        latest.make();
        return latest.countLeft();
    }

    public int pair(int k, int what) {
        if (!isWithin(k, 0, latest.made - 1)) {
            return NONE;
        }
        switch (what) {
            case 0: return latest.firsts[k];
            case 1: return latest.seconds[k];
            case 2: return latest.takes[k];
            default: return NONE;
        }
    }

    private static boolean isWithin(int x, int least, int most) {
        return x >= least && x <= most;
    }

    private static boolean isFile(int f) {
        return isWithin(f, 0, FILES - 1);
    }

    private static boolean isRule(int r) {
        return isWithin(r, 0, RULES - 1);
    }

    private static boolean isMarkRule(int least, int most, int mark) {
        return isWithin(most, 1, MOST_PIECE_BYTES) && isWithin(least, 1, most)
                && isWithin(mark, 0, BYTE_VALUES - 1);
    }

    private boolean isSetRule(int r) {
        return isRule(r) && rules[r].kind != Rule.UNSET;
    }

    private boolean isPlace(int f, int i) {
        return isFile(f) && isWithin(i, 0, files.lengths[f] - 1);
    }

    private boolean isKept(int f) {
        return isFile(f) && store.keptLengths[f] != NONE;
    }

    private boolean agreesFromEnd(int behind) {
        int k = cutter.pieces - 1 - behind;
        int j = otherCutter.pieces - 1 - behind;
        int length = cutter.lengthOf(k);
        return length == otherCutter.lengthOf(j)
                && areAlike(files.bytes, cutter.startOf(k), files.bytes, otherCutter.startOf(j), length);
    }

    private int roomByRule(Rule rule, int chosen) {
        distinct.clear();
        int bytes = 0;
        int numbers = 0;
        for (int f = 0; f < FILES; f++) {
            if ((chosen >> f & 1) == 1) {
                cutter.divide(rule, f);
                bytes += distinct.addPieces(cutter);
                numbers += cutter.pieces;
            }
        }
        return roomOf(bytes, distinct.size, numbers);
    }

    private int roomOf(int bytes, int pieces, int numbers) {
        return bytes + entry * pieces + pointer * numbers;
    }

    private static boolean areAlike(byte[] x, int i, byte[] y, int j, int length) {
        for (int k = 0; k < length; k++) {
            if (x[i + k] != y[j + k]) {
                return false;
            }
        }
        return true;
    }

    /** Bytes that wait for an edit. */
    private static final class Tape {
        final byte[] bytes = new byte[TAPE_BYTES];
        int length;

        void addNumber(int number) {
            for (int shift = 24; shift >= 0; shift -= 8) {
                bytes[length] = (byte) (number >>> shift);
                length++;
            }
        }
    }

    /** All FILES in one row, so that a start and a length tell a piece of any of them. */
    private static final class Files {
        final byte[] bytes = new byte[FILES * FILE_BYTES];
        final int[] lengths = new int[FILES];

        int startOf(int f) {
            return f * FILE_BYTES;
        }

        int byteAt(int f, int i) {
            return bytes[startOf(f) + i] & 255;
        }

        void addByte(int f, int value) {
            bytes[startOf(f) + lengths[f]] = (byte) value;
            lengths[f]++;
        }

        void addBytes(int f, byte[] from, int start, int length) {
            System.arraycopy(from, start, bytes, startOf(f) + lengths[f], length);
            lengths[f] += length;
        }

        void duplicate(int from, int to) {
            System.arraycopy(bytes, startOf(from), bytes, startOf(to), lengths[from]);
            lengths[to] = lengths[from];
        }

        void replace(int f, int place, int gone, Tape tape) {
            int start = startOf(f) + place;
            int behind = lengths[f] - place - gone;
            System.arraycopy(bytes, start + gone, bytes, start + tape.length, behind);
            System.arraycopy(tape.bytes, 0, bytes, start, tape.length);
            lengths[f] += tape.length - gone;
        }
    }

    /** Tells behind which bytes a piece may end. */
    private static final class Rule {
        static final int UNSET = -1;
        static final int FIXED = 0;
        static final int ROLLING = 1;
        static final int TWO = 2;
        static final int TOLD = 3;

        int kind = UNSET;
        int least;
        int most;
        int window;
        int bits;
        int mark;

        void become(int newKind, int newLeast, int newMost, int newMark) {
            kind = newKind;
            least = newLeast;
            most = newMost;
            mark = newMark;
        }

        void roll(int newWindow, int newBits) {
            window = newWindow;
            bits = newBits;
        }

        boolean hasWindow() {
            return kind == ROLLING || kind == TWO;
        }

        boolean endsBehind(int value, int sum) {
            switch (kind) {
                case ROLLING:
                case TWO: return hasSign(sum, bits);
                case TOLD: return value == mark;
                default: return false;
            }
        }

        boolean mayEndBehind(int sum) {
            return kind == TWO && hasSign(sum, Math.max(bits - 1, 0));
        }

        private boolean hasSign(int sum, int ofBits) {
            int mask = (1 << ofBits) - 1;
            return (sum >> 4 & mask) == (mark & mask);
        }
    }

    /** Cuts one FILE and holds where its pieces begin. */
    private static final class Cutter {
        private final Files files;
        final int[] sums = new int[FILE_BYTES];
        // One more than the pieces: the last one is the length of the FILE.
        final int[] begins = new int[FILE_BYTES + 1];
        int pieces;
        private int file;

        Cutter(Files files) {
            this.files = files;
        }

        int startOf(int k) {
            return files.startOf(file) + begins[k];
        }

        int lengthOf(int k) {
            return begins[k + 1] - begins[k];
        }

        void addUp(Rule rule, int f) {
            int gone = 1;
            for (int i = 0; i < rule.window; i++) {
                gone *= 31;
            }
            int sum = 0;
            for (int i = 0; i < files.lengths[f]; i++) {
                sum = sum * 31 + files.byteAt(f, i) + 1;
                if (i >= rule.window) {
                    sum -= gone * (files.byteAt(f, i - rule.window) + 1);
                }
                // 65536 divides the range of an int, so the wrap-around does no harm.
                sums[i] = sum & 65535;
            }
        }

        void divide(Rule rule, int f) {
            if (rule.hasWindow()) {
                addUp(rule, f);
            }
            file = f;
            pieces = 0;
            while (pieces < FILE_BYTES && begins[pieces] < files.lengths[f]) {
                begins[pieces + 1] = endOfPiece(rule, begins[pieces]);
                pieces++;
            }
        }

        private int endOfPiece(Rule rule, int begin) {
            int full = begin + rule.most;
            int last = Math.min(full, files.lengths[file]);
            int spare = last;
            for (int end = begin + rule.least; end <= last; end++) {
                if (rule.endsBehind(files.byteAt(file, end - 1), sums[end - 1])) {
                    return end;
                }
                if (rule.mayEndBehind(sums[end - 1])) {
                    spare = end;
                }
            }
            // A piece that the FILE's end stops short never came to its most bytes.
            return last == full ? spare : last;
        }
    }

    /** A set of pieces of the FILES, by their bytes. */
    private static final class Distinct {
        private final Files files;
        private final int[] starts = new int[SLOTS];
        private final int[] lengths = new int[SLOTS];
        int size;

        Distinct(Files files) {
            this.files = files;
        }

        void clear() {
            // No piece is without bytes: a length of 0 is a free slot.
            Arrays.fill(lengths, 0);
            size = 0;
        }

        /** How many bytes those of the pieces have that were not there yet. */
        int addPieces(Cutter cutter) {
            int fresh = 0;
            for (int k = 0; k < cutter.pieces; k++) {
                if (addPiece(cutter.startOf(k), cutter.lengthOf(k))) {
                    fresh += cutter.lengthOf(k);
                }
            }
            return fresh;
        }

        private boolean addPiece(int start, int length) {
            int home = homeOf(start, length);
            for (int step = 0; step < SLOTS; step++) {
                int slot = (home + step) & (SLOTS - 1);
                if (lengths[slot] == 0) {
                    starts[slot] = start;
                    lengths[slot] = length;
                    size++;
                    return true;
                }
                if (lengths[slot] == length
                        && areAlike(files.bytes, starts[slot], files.bytes, start, length)) {
                    return false;
                }
            }
            return false;
        }

        private int homeOf(int start, int length) {
            int mixed = length;
            for (int i = 0; i < length; i++) {
                mixed = mixed * 31 + files.bytes[start + i];
            }
            return spread(mixed);
        }
    }

    // The high bits of a product with an odd constant depend on all bits of the key.
    private static int spread(int key) {
        return key * 0x9E3779B1 >>> 32 - SLOT_BITS;
    }

    /** THE STORE: pieces by their numbers, and the rows of numbers that are KEPT. */
    private static final class Store {
        private final Files files;
        // All that is KEPT of all FILES, and one FILE more that is being kept.
        private final byte[] bytes = new byte[(FILES + 1) * FILE_BYTES];
        private final int[] starts = new int[MOST_PIECES + 1];
        final int[] lengths = new int[MOST_PIECES + 1];
        final int[] prints = new int[MOST_PIECES + 1];
        final int[] holds = new int[MOST_PIECES + 1];
        final int[][] kept = new int[FILES][FILE_BYTES];
        final int[] keptLengths = new int[FILES];
        private final int[] coming = new int[FILE_BYTES];
        int pieces;
        int used;
        int meetings;

        Store(Files files) {
            this.files = files;
            Arrays.fill(keptLengths, NONE);
        }

        /** KEEPS the FILE that was cut: how many new pieces, or TOO_MUCH. */
        int take(Cutter cutter, int f) {
            int piecesBefore = pieces;
            int meetingsBefore = meetings;
            for (int k = 0; k < cutter.pieces; k++) {
                int p = share(cutter.startOf(k), cutter.lengthOf(k));
                if (p == NONE) {
                    release(coming, k);
                    meetings = meetingsBefore;
                    return TOO_MUCH;
                }
                holds[p]++;
                coming[k] = p;
            }
            int fresh = pieces - piecesBefore;
            release(kept[f], keptLengths[f]);
            System.arraycopy(coming, 0, kept[f], 0, cutter.pieces);
            keptLengths[f] = cutter.pieces;
            return fresh;
        }

        /** Nothing is KEPT of the FILE any more: how many pieces go. */
        int letGo(int f) {
            int piecesBefore = pieces;
            release(kept[f], keptLengths[f]);
            keptLengths[f] = NONE;
            return piecesBefore - pieces;
        }

        void restore(int f) {
            files.lengths[f] = 0;
            for (int k = 0; k < keptLengths[f]; k++) {
                int p = kept[f][k];
                files.addBytes(f, bytes, starts[p], lengths[p]);
            }
        }

        int countJumps(int f) {
            int jumped = 0;
            for (int k = 0; k < keptLengths[f]; k++) {
                if (k == 0 || kept[f][k] != kept[f][k - 1] + 1) {
                    jumped++;
                }
            }
            return jumped;
        }

        int countNumbers() {
            int numbers = 0;
            for (int f = 0; f < FILES; f++) {
                numbers += Math.max(keptLengths[f], 0);
            }
            return numbers;
        }

        int countKeptFiles() {
            int keptFiles = 0;
            for (int f = 0; f < FILES; f++) {
                keptFiles += keptLengths[f] == NONE ? 0 : 1;
            }
            return keptFiles;
        }

        /** The number of a piece with these bytes, old or new; NONE when there is no room. */
        private int share(int start, int length) {
            int print = printOf(start, length);
            int p = findAlike(print, start, length);
            if (p == NONE) {
                p = leastFree();
                if (p != NONE) {
                    addPiece(p, print, start, length);
                }
            }
            return p;
        }

        private int findAlike(int print, int start, int length) {
            int seen = 0;
            for (int p = 1; p <= MOST_PIECES && seen < pieces; p++) {
                if (holds[p] > 0) {
                    seen++;
                    if (prints[p] == print && lengths[p] == length) {
                        if (areAlike(bytes, starts[p], files.bytes, start, length)) {
                            return p;
                        }
                        meetings++;
                    }
                }
            }
            return NONE;
        }

        private int leastFree() {
            for (int p = 1; p <= MOST_PIECES; p++) {
                if (holds[p] == 0) {
                    return p;
                }
            }
            return NONE;
        }

        private int printOf(int start, int length) {
            int print = 0;
            for (int i = 0; i < length; i++) {
                print += (files.bytes[start + i] & 255) * (i + 1);
            }
            return print & 255;
        }

        private void addPiece(int p, int print, int start, int length) {
            System.arraycopy(files.bytes, start, bytes, used, length);
            starts[p] = used;
            lengths[p] = length;
            prints[p] = print;
            used += length;
            pieces++;
        }

        private void release(int[] numbers, int length) {
            for (int k = 0; k < length; k++) {
                int p = numbers[k];
                holds[p]--;
                if (holds[p] == 0) {
                    removePiece(p);
                }
            }
        }

        // The bytes behind move up, so that the row never needs more than what is KEPT.
        private void removePiece(int p) {
            int behind = starts[p] + lengths[p];
            System.arraycopy(bytes, behind, bytes, starts[p], used - behind);
            for (int q = 1; q <= MOST_PIECES; q++) {
                if (holds[q] > 0 && starts[q] >= behind) {
                    starts[q] -= lengths[p];
                }
            }
            used -= lengths[p];
            pieces--;
        }
    }

    /** Puts pairs of numbers that often stand side by side under new numbers. */
    private static final class Supers {
        // Stands behind each row, so that no pair reaches from one into the next.
        private static final int ROW_END = 0;

        private final int[] line = new int[FILES * (FILE_BYTES + 1)];
        private int length;
        private int rows;
        private final PairTable table = new PairTable();
        final int[] firsts = new int[MOST_SUPERS];
        final int[] seconds = new int[MOST_SUPERS];
        final int[] takes = new int[MOST_SUPERS];
        int made;

        void clear() {
            length = 0;
            rows = 0;
            made = 0;
        }

        void addRow(int[] numbers, int count) {
            System.arraycopy(numbers, 0, line, length, count);
            length += count;
            line[length] = ROW_END;
            length++;
            rows++;
        }

        void make() {
            for (int k = 0; k < MOST_SUPERS; k++) {
                countPairs();
                if (table.most < 2) {
                    return;
                }
                firsts[k] = table.mostFirst;
                seconds[k] = table.mostSecond;
                takes[k] = putInPlace(firsts[k], seconds[k], FIRST_SUPER + k);
                made++;
            }
        }

        int countLeft() {
            return length - rows + 2 * made;
        }

        private void countPairs() {
            table.clear();
            boolean overlaps = false;
            for (int i = 0; i + 1 < length; i++) {
                int first = line[i];
                int second = line[i + 1];
                // Only a pair of like numbers can share one with the same pair ahead of it.
                overlaps = !overlaps && i > 0 && line[i - 1] == first && first == second;
                if (!overlaps && first != ROW_END && second != ROW_END) {
                    table.addPair(first, second);
                }
            }
        }

        /** How often the new number took the pair's place. */
        private int putInPlace(int first, int second, int fresh) {
            int to = 0;
            int taken = 0;
            for (int i = 0; i < length; i++) {
                if (line[i] == first && i + 1 < length && line[i + 1] == second) {
                    line[to] = fresh;
                    taken++;
                    i++;
                } else {
                    line[to] = line[i];
                }
                to++;
            }
            length = to;
            return taken;
        }
    }

    /** How often each pair came, and which one came most often. */
    private static final class PairTable {
        private static final int SECOND_BITS = 11;

        private final int[] keys = new int[SLOTS];
        private final int[] counts = new int[SLOTS];
        // The round in which a slot was taken: an older one is free, so nothing is wiped.
        private final int[] rounds = new int[SLOTS];
        private int round;
        private int mostKey;
        int most;
        int mostFirst;
        int mostSecond;

        void clear() {
            round++;
            most = 0;
        }

        void addPair(int first, int second) {
            // Keys stand in the order in which pairs of equal counts are chosen.
            int key = (first << SECOND_BITS) + second;
            int came = countOnceMore(key);
            if (came > most || came == most && key < mostKey) {
                most = came;
                mostKey = key;
                mostFirst = first;
                mostSecond = second;
            }
        }

        private int countOnceMore(int key) {
            int home = spread(key);
            for (int step = 0; step < SLOTS; step++) {
                int slot = (home + step) & (SLOTS - 1);
                if (rounds[slot] != round) {
                    rounds[slot] = round;
                    keys[slot] = key;
                    counts[slot] = 0;
                }
                if (keys[slot] == key) {
                    counts[slot]++;
                    return counts[slot];
                }
            }
            return 0;
        }
    }
}
