/** A memory with faults, the marches that test it, and the spares that repair what failed. */
public final class MarchTests {
    public static final int NONE = -1;

    private static final int MOST_WORDS = 16;
    private static final int MOST_BITS = 4;
    private static final int MOST_UNITS = 400;
    private static final int MOST_ELEMENTS = 16;
    private static final int MOST_OPERATIONS = 8;
    private static final int MOST_FAULTS = 4;
    private static final int MOST_FAILURES = 300;
    private static final int MOST_SPARES = 8;

    private static final int STUCK_AT_0 = 0;
    private static final int STUCK_AT_1 = 1;
    private static final int NEVER_RISES = 2;
    private static final int NEVER_FALLS = 3;
    private static final int STUCK_OPEN = 4;
    private static final int FADES_IN_PAUSE = 5;
    private static final int FLIPPED_BEFORE_READ = 6;
    private static final int FLIPPED_AFTER_READ = 7;
    private static final int READ_WRONG = 8;
    private static final int FLIPPED_BY_SAME_WRITE = 9;
    private static final int FLIPPED_BY_RISE = 10;
    private static final int FLIPPED_BY_FALL = 11;
    private static final int CLEARED_BY_ONE = 12;
    private static final int BRIDGED = 13;

    private static final int ROW_DOWN = 1;
    private static final int ROW_READ = 2;
    private static final int ROW_ONE = 4;
    private static final int ROW_LAST = 8;
    private static final int ROW_PAUSE = 16;

    private static final int ORDERS = 3;
    private static final int GROUNDS = 4;

    private final int words;
    private final int cells;
    private final Tape tape;
    private final TextReader reader;
    private final FaultList faults;
    private final FaultList single;
    private final Tester tester;
    private final RepairPlan plan;
    private March march;
    private March draft;

    public MarchTests(int words, int bits) {
        int nearestBits = Math.max(1, Math.min(MOST_BITS, bits));
        this.words = Math.max(1, Math.min(MOST_WORDS, words));
        this.cells = this.words * nearestBits;
        this.tape = new Tape();
        this.reader = new TextReader();
        this.faults = new FaultList(nearestBits);
        this.single = new FaultList(nearestBits);
        this.tester = new Tester(this.words, nearestBits);
        this.plan = new RepairPlan(this.words, nearestBits);
        this.march = new March();
        this.draft = new March();
    }

    /** One byte more on the tape: whether there was room. */
    public boolean unit(int u) {
        return tape.add(u);
    }

    /** Reads the tape as a text: its number of elements, or -1 less the place of its fault. */
    public int read() {
        int place = reader.placeOfFault(tape, draft);
        tape.clear();
        if (place != NONE) {
            return -1 - place;
        }
        March before = march;
        march = draft;
        draft = before;
        return march.elements;
    }

    /** One more fault, or with NONE all gone: how many there are. */
    public int fault(int kind, int cell, int other)
            throws IndexOutOfBoundsException, IllegalStateException, IllegalArgumentException {
        if (kind == NONE) {
            faults.clear();
            return 0;
        }
        if (!isCell(cell) || isPaired(kind) && !isCell(other)) {
            throw new IndexOutOfBoundsException("no such cell");
        }
        if (faults.count >= MOST_FAULTS) {
            throw new IllegalStateException("no room for one more fault");
        }
        if (!isKind(kind)) {
            throw new IllegalArgumentException("no such kind");
        }
        if (isPaired(kind) && cell == other) {
            throw new IllegalArgumentException("both cells are the same");
        }
        faults.add(kind, cell, other);
        return faults.count;
    }

    /** Runs the march: 1 if an operation failed, else 0. */
    public int run(int order) throws IllegalStateException, IllegalArgumentException {
        if (!hasMarch()) {
            throw new IllegalStateException("no march was read");
        }
        if (order < 0 || order >= ORDERS) {
            throw new IllegalArgumentException("no such order");
        }
        tester.failures.clear();
        tester.prepare(order);
        return tester.marchFails(march, faults, true) ? 1 : 0;
    }

    /** Of all single faults of a kind: how many the march finds, or how many there are. */
    public long covered(int kind, int part) throws IllegalStateException, IllegalArgumentException {
        if (!hasMarch()) {
            throw new IllegalStateException("no march was read");
        }
        if (!isKind(kind)) {
            throw new IllegalArgumentException("no such kind");
        }
        if (part != 0 && part != 1) {
            throw new IllegalArgumentException("no such part");
        }
        boolean paired = isPaired(kind);
        if (part == 1) {
            return paired ? cells * (cells - 1) : cells;
        }
        long found = 0;
        tester.prepare(0);
        for (int cell = 0; cell < cells; cell++) {
            for (int other = 0; other < cells; other++) {
                // A kind of one cell has no other one: it is told once, with itself.
                if (paired == (cell != other)) {
                    single.clear();
                    single.add(kind, cell, other);
                    found += tester.marchFails(march, single, false) ? 1 : 0;
                }
            }
        }
        return found;
    }

    /** Row i of the machine that runs the march. */
    public int machine(int i) throws IllegalStateException, IndexOutOfBoundsException {
        if (!hasMarch()) {
            throw new IllegalStateException("no march was read");
        }
        if (i < 0 || i >= march.rowCount) {
            throw new IndexOutOfBoundsException("no such row");
        }
        return march.rows[i];
    }

    /** Exchanges two words in what is scrambled: whether they are different ones. */
    public boolean scramble(int from, int to) throws IndexOutOfBoundsException {
        if (!isWord(from) || !isWord(to)) {
            throw new IndexOutOfBoundsException("no such word");
        }
        tester.exchange(from, to);
        return from != to;
    }

    /** Of failing operation k: its element, its number there, the word, the wrong bits; or how many are kept. */
    public int failing(int k, int what) throws IndexOutOfBoundsException {
        Failures failures = tester.failures;
        boolean there = k >= 0 && k < failures.count;
        if (what == Failures.PARTS && (there || k == 0)) {
            return failures.count;
        }
        if (!there || what < 0 || what >= Failures.PARTS) {
            throw new IndexOutOfBoundsException("no such failing operation or what");
        }
        return failures.part(k, what);
    }

    /** How many spares repair what failed; -1 none will do, -2 more words failed than steps. */
    public int repair(int rows, int columns, long steps) throws IllegalArgumentException {
        if (!isSpareCount(rows) || !isSpareCount(columns)) {
            throw new IllegalArgumentException("rows or columns are too many or below 0");
        }
        if (steps < 0) {
            throw new IllegalArgumentException("steps are below 0");
        }
        return plan.make(tester.failures, rows, columns, steps);
    }

    /** Of spare k of the latest repair: whether it is a column, or its number. */
    public int spare(int k, int what) throws IndexOutOfBoundsException {
        if (what != 0 && what != 1) {
            throw new IndexOutOfBoundsException("no such what");
        }
        int place = plan.fuseOfSpare(k);
        if (place == NONE) {
            throw new IndexOutOfBoundsException("no such spare");
        }
        boolean column = place >= words;
        if (what == 0) {
            return column ? 1 : 0;
        }
        return column ? place - words : place;
    }

    /** Whether the latest repair told the least number, or that there is none. */
    public boolean proved() {
        return plan.proven;
    }

    /** Whether (1) the latest repair uses a spare for a word or, behind the words, for a bit. */
    public int fuse(int i) throws IndexOutOfBoundsException {
        if (i < 0 || i >= plan.fuses) {
            throw new IndexOutOfBoundsException("no such fuse");
        }
        return plan.isBlown(i) ? 1 : 0;
    }

    /** So many ports from now on: how many there were. */
    public int port(int n) throws IllegalArgumentException {
        if (n != 1 && n != 2) {
            throw new IllegalArgumentException("ports are not 1 or 2");
        }
        int before = tester.ports;
        tester.ports = n;
        return before;
    }

    /** The ground from now on: whether it is another one. */
    public boolean ground(int kind) throws IllegalArgumentException {
        if (kind < 0 || kind >= GROUNDS) {
            throw new IllegalArgumentException("no such ground");
        }
        boolean another = tester.groundKind != kind;
        tester.groundKind = kind;
        return another;
    }

    private boolean hasMarch() {
        return march.elements > 0;
    }

    private boolean isWord(int word) {
        return word >= 0 && word < words;
    }

    private boolean isCell(int cell) {
        return cell >= 0 && cell < cells;
    }

    private static boolean isKind(int kind) {
        return kind >= STUCK_AT_0 && kind <= BRIDGED;
    }

    private static boolean isPaired(int kind) {
        return kind >= FLIPPED_BY_RISE && kind <= BRIDGED;
    }

    private static boolean isSpareCount(int count) {
        return count >= 0 && count <= MOST_SPARES;
    }

    /** The bytes that wait to be read. */
    private static final class Tape {
        final byte[] units = new byte[MOST_UNITS];
        int length;

        boolean add(int u) {
            if (length >= MOST_UNITS) {
                return false;
            }
            units[length] = (byte) u;
            length++;
            return true;
        }

        void clear() {
            length = 0;
        }
    }

    /** A march as the rows of its machine; the rows of element e begin at firstRows[e]. */
    private static final class March {
        final int[] rows = new int[MOST_ELEMENTS * MOST_OPERATIONS];
        // One more than the elements, so that each element ends where the next one begins.
        final int[] firstRows = new int[MOST_ELEMENTS + 1];
        int elements;
        int rowCount;

        void clear() {
            elements = 0;
            rowCount = 0;
            firstRows[0] = 0;
        }

        boolean hasRoomForElement() {
            return elements < MOST_ELEMENTS;
        }

        boolean hasRoomForOperation() {
            return elements > 0 && rowCount - firstRows[elements - 1] < MOST_OPERATIONS;
        }

        void beginElement() {
            if (hasRoomForElement()) {
                elements++;
                firstRows[elements] = rowCount;
            }
        }

        void addRow(int row) {
            if (hasRoomForOperation()) {
                rows[rowCount] = row;
                rowCount++;
                firstRows[elements] = rowCount;
            }
        }

        void endElement() {
            if (rowCount > 0) {
                rows[rowCount - 1] |= ROW_LAST;
            }
        }
    }

    /** Reads a text byte by byte; the state tells which bytes can stand next. */
    private static final class TextReader {
        private static final int AT_ELEMENT = 0;
        private static final int BEHIND_ELEMENT = 1;
        private static final int AT_OPEN = 2;
        private static final int AT_OPERATION = 3;
        private static final int AT_VALUE = 4;
        private static final int BEHIND_OPERATION = 5;

        private int state;
        private int direction;
        private int operation;

        /** Writes the text's march; NONE if it has no fault. */
        int placeOfFault(Tape tape, March into) {
            into.clear();
            state = AT_ELEMENT;
            for (int i = 0; i < tape.length; i++) {
                int unit = tape.units[i] & 255;
                if (!isBlank(unit) && !takes(unit, into)) {
                    return i;
                }
            }
            return state == BEHIND_ELEMENT ? NONE : tape.length;
        }

        private static boolean isBlank(int unit) {
            return unit == 9 || unit == 10 || unit == 13 || unit == 32;
        }

        private boolean takes(int unit, March into) {
            switch (state) {
                case AT_ELEMENT:
                    return takesElement(unit, into);
                case BEHIND_ELEMENT:
                    if (unit == ';') {
                        state = AT_ELEMENT;
                        return true;
                    }
                    return takesElement(unit, into);
                case AT_OPEN:
                    state = AT_OPERATION;
                    return unit == '(';
                case AT_OPERATION:
                    return takesOperation(unit, into);
                case AT_VALUE:
                    return takesValue(unit, into);
                default:
                    return takesBehindOperation(unit, into);
            }
        }

        private boolean takesElement(int unit, March into) {
            if (!into.hasRoomForElement()) {
                return false;
            }
            if (unit == 'd') {
                into.beginElement();
                into.addRow(ROW_PAUSE);
                into.endElement();
                state = BEHIND_ELEMENT;
                return true;
            }
            if (unit != '^' && unit != 'v' && unit != '*') {
                return false;
            }
            into.beginElement();
            direction = unit == 'v' ? ROW_DOWN : 0;
            state = AT_OPEN;
            return true;
        }

        private boolean takesOperation(int unit, March into) {
            if (unit != 'w' && unit != 'r' || !into.hasRoomForOperation()) {
                return false;
            }
            operation = unit == 'r' ? ROW_READ : 0;
            state = AT_VALUE;
            return true;
        }

        private boolean takesValue(int unit, March into) {
            if (unit != '0' && unit != '1') {
                return false;
            }
            int value = unit == '1' ? ROW_ONE : 0;
            into.addRow(direction | operation | value);
            state = BEHIND_OPERATION;
            return true;
        }

        private boolean takesBehindOperation(int unit, March into) {
            if (unit == ',') {
                state = AT_OPERATION;
                return true;
            }
            if (unit == ')') {
                into.endElement();
                state = BEHIND_ELEMENT;
                return true;
            }
            return false;
        }
    }

    /** Faults in order; each cell of them as its word and the mask of its bit there. */
    private static final class FaultList {
        final int[] kinds = new int[MOST_FAULTS];
        final int[] victimWords = new int[MOST_FAULTS];
        final int[] victimMasks = new int[MOST_FAULTS];
        final int[] otherWords = new int[MOST_FAULTS];
        final int[] otherMasks = new int[MOST_FAULTS];
        int count;
        private int touchedWords;
        private final int bits;

        FaultList(int bits) {
            this.bits = Math.max(1, bits);
        }

        void clear() {
            count = 0;
            touchedWords = 0;
        }

        void add(int kind, int cell, int other) {
            if (count >= MOST_FAULTS) {
                return;
            }
            // A mask of 0 matches no cell: kinds of one cell have no other one.
            int otherCell = isPaired(kind) ? other : cell;
            int otherMask = isPaired(kind) ? 1 << other % bits : 0;
            kinds[count] = kind;
            victimWords[count] = cell / bits;
            victimMasks[count] = 1 << cell % bits;
            otherWords[count] = otherCell / bits;
            otherMasks[count] = otherMask;
            touchedWords |= 1 << victimWords[count] | 1 << otherWords[count];
            count++;
        }

        boolean touches(int word) {
            return (touchedWords >> word & 1) != 0;
        }

        boolean isVictim(int f, int word, int mask) {
            return victimWords[f] == word && victimMasks[f] == mask;
        }

        boolean isOther(int f, int word, int mask) {
            return otherWords[f] == word && otherMasks[f] == mask;
        }
    }

    /** The words, as they are written and read with the faults of one run; a bit's value is 0 or its mask. */
    private static final class Memory {
        private final int words;
        private final int bits;
        private final int[] held;
        private FaultList faults;
        private int latest;

        Memory(int words, int bits) {
            this.words = Math.max(1, words);
            this.bits = bits;
            this.held = new int[this.words];
            this.faults = new FaultList(bits);
        }

        void begin(FaultList ofRun) {
            faults = ofRun;
            latest = 0;
            for (int word = 0; word < words; word++) {
                held[word] = 0;
            }
            settle();
        }

        void store(int word, int pattern) {
            // Most words have no fault: those need no look at each of their bits.
            if (faults.touches(word)) {
                for (int bit = 0; bit < bits; bit++) {
                    int mask = 1 << bit;
                    setCell(word, mask, valueToStore(word, mask, pattern & mask));
                }
            } else {
                held[word] = pattern;
            }
            settle();
        }

        int fetch(int word) {
            int got = held[word];
            if (faults.touches(word)) {
                got = 0;
                for (int bit = 0; bit < bits; bit++) {
                    got |= fetchCell(word, 1 << bit);
                }
            }
            latest = got;
            settle();
            return got;
        }

        void rest() {
            for (int f = 0; f < faults.count; f++) {
                if (faults.kinds[f] == FADES_IN_PAUSE) {
                    held[faults.victimWords[f]] &= ~faults.victimMasks[f];
                }
            }
            settle();
        }

        private int valueToStore(int word, int mask, int told) {
            int has = held[word] & mask;
            int value = told;
            for (int f = 0; f < faults.count; f++) {
                if (faults.isVictim(f, word, mask)) {
                    value = struckValue(faults.kinds[f], mask, told, has, value);
                }
            }
            return value;
        }

        private static int struckValue(int kind, int mask, int told, int has, int value) {
            switch (kind) {
                case STUCK_AT_0:
                    return 0;
                case STUCK_AT_1:
                    return mask;
                case NEVER_RISES:
                    return has == 0 ? 0 : value;
                case NEVER_FALLS:
                    return has != 0 ? mask : value;
                case STUCK_OPEN:
                    return has;
                case FLIPPED_BY_SAME_WRITE:
                    return told == has ? has ^ mask : value;
                default:
                    return value;
            }
        }

        private int fetchCell(int word, int mask) {
            int value = held[word] & mask;
            for (int f = 0; f < faults.count; f++) {
                int kind = faults.kinds[f];
                if (kind == BRIDGED) {
                    value = isPulledDown(f, word, mask) ? 0 : value;
                } else if (faults.isVictim(f, word, mask)) {
                    int flipped = (held[word] & mask) ^ mask;
                    if (kind == FLIPPED_BEFORE_READ) {
                        setCell(word, mask, flipped);
                        value = flipped;
                    } else if (kind == FLIPPED_AFTER_READ) {
                        setCell(word, mask, flipped);
                    } else if (kind == READ_WRONG) {
                        value ^= mask;
                    } else if (kind == STUCK_OPEN) {
                        value = latest & mask;
                    }
                }
            }
            return value;
        }

        /** Whether the cell is one of a bridge's two and the other of them has 0. */
        private boolean isPulledDown(int f, int word, int mask) {
            if (faults.isVictim(f, word, mask)) {
                return (held[faults.otherWords[f]] & faults.otherMasks[f]) == 0;
            }
            return faults.isOther(f, word, mask) && (held[faults.victimWords[f]] & faults.victimMasks[f]) == 0;
        }

        private void setCell(int word, int mask, int value) {
            if ((held[word] & mask) == value) {
                return;
            }
            held[word] ^= mask;
            int kind = value != 0 ? FLIPPED_BY_RISE : FLIPPED_BY_FALL;
            for (int f = 0; f < faults.count; f++) {
                if (faults.kinds[f] == kind && faults.isOther(f, word, mask)) {
                    held[faults.victimWords[f]] ^= faults.victimMasks[f];
                }
            }
        }

        private void settle() {
            for (int f = 0; f < faults.count; f++) {
                int word = faults.victimWords[f];
                int mask = faults.victimMasks[f];
                switch (faults.kinds[f]) {
                    case STUCK_AT_0:
                        held[word] &= ~mask;
                        break;
                    case STUCK_AT_1:
                        held[word] |= mask;
                        break;
                    case CLEARED_BY_ONE:
                        if ((held[faults.otherWords[f]] & faults.otherMasks[f]) != 0) {
                            held[word] &= ~mask;
                        }
                        break;
                    default:
                        break;
                }
            }
        }
    }

    /** The first operations that failed in the latest run. */
    private static final class Failures {
        static final int PARTS = 4;
        static final int WORD = 2;
        static final int WRONG_BITS = 3;

        private final int[] parts = new int[MOST_FAILURES * PARTS];
        int count;

        void clear() {
            count = 0;
        }

        void add(int element, int operation, int word, int wrongBits) {
            if (count >= MOST_FAILURES) {
                return;
            }
            int first = count * PARTS;
            parts[first] = element;
            parts[first + 1] = operation;
            parts[first + WORD] = word;
            parts[first + WRONG_BITS] = wrongBits;
            count++;
        }

        int part(int k, int what) {
            return parts[k * PARTS + what];
        }
    }

    /** Leads marches over the memory, by an order, on a ground, through its ports. */
    private static final class Tester {
        // Bits with odd numbers.
        private static final int ODD_BITS = 10;

        final Failures failures;
        int ports;
        int groundKind;
        private final int words;
        private final int allBits;
        private final Memory memory;
        private final int[] scrambled;
        private final int[] wordAt;
        private final int[] zeroOf;

        Tester(int words, int bits) {
            this.words = Math.max(1, words);
            this.allBits = (1 << bits) - 1;
            this.memory = new Memory(this.words, bits);
            this.failures = new Failures();
            this.scrambled = new int[this.words];
            this.wordAt = new int[this.words];
            this.zeroOf = new int[this.words];
            this.ports = 1;
            for (int word = 0; word < this.words; word++) {
                this.scrambled[word] = word;
            }
        }

        void exchange(int from, int to) {
            int kept = scrambled[from];
            scrambled[from] = scrambled[to];
            scrambled[to] = kept;
        }

        /** Lays out which word is at each place, and what 0 is in each word. */
        void prepare(int order) {
            int places = 0;
            for (int number = 0; number < MOST_WORDS; number++) {
                int word = order == 0 ? number : order == 1 ? reversed(number) : words - 1 - number;
                if (word >= 0 && word < words && places < words) {
                    wordAt[places] = scrambled[word];
                    places++;
                }
            }
            for (int word = 0; word < words; word++) {
                zeroOf[word] = zeroIn(word) & allBits;
            }
        }

        private static int reversed(int number) {
            return (number & 1) << 3 | (number & 2) << 1 | (number & 4) >> 1 | (number & 8) >> 3;
        }

        private int zeroIn(int word) {
            boolean odd = (word & 1) != 0;
            switch (groundKind) {
                case 1:
                    return odd ? ~ODD_BITS : ODD_BITS;
                case 2:
                    return odd ? ~0 : 0;
                case 3:
                    return ODD_BITS;
                default:
                    return 0;
            }
        }

        /** Whether an operation fails; if failures are not kept, the first one ends the run. */
        boolean marchFails(March march, FaultList faults, boolean keep) {
            memory.begin(faults);
            boolean failed = false;
            for (int e = 0; e < march.elements && (keep || !failed); e++) {
                if ((march.rows[march.firstRows[e]] & ROW_PAUSE) != 0) {
                    memory.rest();
                } else if (elementFails(march, e, keep)) {
                    failed = true;
                }
            }
            return failed;
        }

        private boolean elementFails(March march, int element, boolean keep) {
            int first = march.firstRows[element];
            int end = march.firstRows[element + 1];
            boolean down = (march.rows[first] & ROW_DOWN) != 0;
            boolean failed = false;
            for (int step = 0; step < words; step++) {
                int place = down ? words - 1 - step : step;
                for (int row = first; row < end; row++) {
                    int wrongBits = operate(march.rows[row], place);
                    if (wrongBits != 0) {
                        if (!keep) {
                            return true;
                        }
                        failed = true;
                        failures.add(element, row - first, wordAt[place], wrongBits);
                    }
                }
            }
            return failed;
        }

        /** Does one operation at a place: the bits that it read wrong. */
        private int operate(int row, int place) {
            int word = wordAt[place];
            int told = (row & ROW_ONE) != 0 ? zeroOf[word] ^ allBits : zeroOf[word];
            if ((row & ROW_READ) == 0) {
                memory.store(word, told);
                return 0;
            }
            int wrongBits = memory.fetch(word) ^ told;
            if (ports == 2) {
                // What the second port reads is not looked at, but the read may change cells.
                memory.fetch(wordAt[place + 1 < words ? place + 1 : 0]);
            }
            return wrongBits;
        }
    }

    /** The latest repair: which words and bits have spares. */
    private static final class RepairPlan {
        final int fuses;
        boolean proven;
        private final int words;
        private final int columnSets;
        private final int[] wrongBits;
        private boolean solved;
        private int bestRows;
        private int bestColumns;

        RepairPlan(int words, int bits) {
            this.words = Math.max(1, words);
            this.fuses = this.words + bits;
            this.columnSets = 1 << bits;
            this.wrongBits = new int[this.words];
        }

        int make(Failures failures, int rows, int columns, long steps) {
            gatherWrongBits(failures);
            solved = false;
            bestRows = 0;
            bestColumns = 0;
            proven = Integer.bitCount(wordsWrongOutside(0)) <= steps;
            if (!proven) {
                return -2;
            }
            // The columns settle the rows: each word that is still wrong outside them needs one.
            for (int columnSet = 0; columnSet < columnSets; columnSet++) {
                int rowSet = wordsWrongOutside(columnSet);
                if (Integer.bitCount(columnSet) <= columns && Integer.bitCount(rowSet) <= rows
                        && isBetter(rowSet, columnSet)) {
                    solved = true;
                    bestRows = rowSet;
                    bestColumns = columnSet;
                }
            }
            return solved ? spares(bestRows, bestColumns) : -1;
        }

        boolean isBlown(int fuse) {
            int set = bestRows | bestColumns << words;
            return (set >> fuse & 1) != 0;
        }

        /** The fuse of spare k, or NONE. */
        int fuseOfSpare(int k) {
            int before = 0;
            for (int fuse = 0; fuse < fuses; fuse++) {
                if (isBlown(fuse)) {
                    if (before == k) {
                        return fuse;
                    }
                    before++;
                }
            }
            return NONE;
        }

        private void gatherWrongBits(Failures failures) {
            for (int word = 0; word < words; word++) {
                wrongBits[word] = 0;
            }
            for (int k = 0; k < failures.count; k++) {
                wrongBits[failures.part(k, Failures.WORD)] |= failures.part(k, Failures.WRONG_BITS);
            }
        }

        private int wordsWrongOutside(int columnSet) {
            int set = 0;
            for (int word = 0; word < words; word++) {
                if ((wrongBits[word] & ~columnSet) != 0) {
                    set |= 1 << word;
                }
            }
            return set;
        }

        private static int spares(int rowSet, int columnSet) {
            return Integer.bitCount(rowSet) + Integer.bitCount(columnSet);
        }

        private boolean isBetter(int rowSet, int columnSet) {
            if (!solved) {
                return true;
            }
            int difference = spares(rowSet, columnSet) - spares(bestRows, bestColumns);
            if (difference == 0) {
                difference = Integer.bitCount(rowSet) - Integer.bitCount(bestRows);
            }
            if (difference != 0) {
                return difference < 0;
            }
            // Of two sets with as many rows, the one with the least row that only one has comes first.
            int onlyOne = rowSet ^ bestRows;
            int least = onlyOne & -onlyOne;
            return (rowSet & least) != 0;
        }
    }
}
