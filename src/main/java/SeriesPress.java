/** Series of metered values pressed into blocks of bytes, and what can be read from them in place. */
public final class SeriesPress {
    public static final int NONE = -1;
    public static final long NO_NUMBER = 0x7ff8000000000000L;

    private static final int NO_SUCH = -2;
    private static final int TOO_LONG = -3;
    private static final int TOO_MANY = -4;
    private static final int NOT_NOW = -5;
    private static final int SPOILT = -6;

    private static final int SLOTS = 4;
    private static final int MOST_BLOCKS = 16;
    private static final int MOST_LATE = 20;
    private static final int LAST_STAMP = 2000000000;
    private static final int LEAST_ROOM = 24;
    private static final int MOST_ROOM = 200;
    private static final int GREATEST_STEP = 1000000;
    private static final int HEAD_BYTES = 14;
    private static final int HEAD_BITS = 112;
    private static final int FED_BYTES = 20;
    private static final int FRACTION_BITS = 52;

    /** Behind a HEAD are 1480 bits at most: ten of the second POINT at least, two of each that follows. */
    private static final int MOST_POINTS = MOST_BLOCKS * 737 + MOST_LATE;

    private static final int WAY_SAME = 5;
    private static final int WAY_WINDOW = 6;
    private static final int WAY_ANEW = 7;
    private static final int MOST_ZEROS_TOLD = 31;
    private static final int MOST_BITS_WASTED = 11;

    private static final int FAULT_CHECK = 1;
    private static final int FAULT_SHORT = 2;
    private static final int FAULT_STAMP = 3;
    private static final int FAULT_FORM = 4;
    private static final int FAULT_EMPTY = 5;
    private static final int FAULT_REST = 6;
    private static final int FAULT_OTHER = 7;

    private static final int[] CLASS_PREFIX = {0, 2, 6, 14, 15};
    private static final int[] CLASS_PREFIX_BITS = {1, 2, 3, 4, 4};
    private static final int[] CLASS_BITS = {0, 7, 9, 12, 32};

    private final Series[] slots;
    /** What is PACKED anew is built here first, so that nothing has happened if it does not fit. */
    private Series spare;
    private final Points mine;
    private final Points theirs;
    private final Pairs pairs;
    private final Reader reader;
    private final Coder scales;
    private final Mender mender;
    private final Block tape;

    public SeriesPress() {
        slots = new Series[SLOTS];
        for (int i = 0; i < SLOTS; i++) {
            slots[i] = new Series();
        }
        spare = new Series();
        mine = new Points(MOST_POINTS);
        theirs = new Points(MOST_POINTS);
        pairs = new Pairs(mine, theirs);
        reader = new Reader();
        scales = new Coder();
        mender = new Mender(reader);
        tape = new Block();
    }

    // ---- points that come

    public int begins(int series, int room) {
        if (!isSlot(series) || !isRoom(room)) {
            return NO_SUCH;
        }
        slots[series].start(room);
        return 0;
    }

    public int add(int series, int stamp, long bits) {
        if (isNone(series) || !isStamp(stamp)) {
            return NO_SUCH;
        }
        if (stamp <= slots[series].last) {
            return NOT_NOW;
        }
        return slots[series].put(stamp, bits);
    }

    public int late(int series, int stamp, long bits) {
        if (isNone(series) || !isStamp(stamp)) {
            return NO_SUCH;
        }
        Series s = slots[series];
        if (stamp > s.last) {
            return NOT_NOW;
        }
        return s.late.insert(stamp, bits) ? s.late.size : TOO_MANY;
    }

    public int would(int series, int stamp, long bits) {
        if (isNone(series) || !isStamp(stamp)) {
            return NO_SUCH;
        }
        Series s = slots[series];
        if (stamp <= s.last) {
            return NOT_NOW;
        }
        return s.fits(stamp, bits) ? s.coder.cost : 0;
    }

    public int seals(int series) {
        if (isNone(series)) {
            return NO_SUCH;
        }
        Block open = slots[series].openBlock();
        if (open == null) {
            return NOT_NOW;
        }
        open.close();
        return open.size;
    }

    public int drops(int series, int block) {
        if (blockOf(series, block) == null) {
            return NO_SUCH;
        }
        return slots[series].remove(block);
    }

    // ---- the tape

    public int feed(int a, int b, int c, int d, int e) {
        if (tape.size + FED_BYTES > MOST_ROOM) {
            return NONE;
        }
        tape.append(a);
        tape.append(b);
        tape.append(c);
        tape.append(d);
        tape.append(e);
        return tape.size;
    }

    public int end(int n) {
        if (n < 0 || n > tape.size) {
            return NONE;
        }
        tape.size = n;
        return n;
    }

    public int taped() {
        return tape.size;
    }

    public int takes(int series) {
        if (isNone(series)) {
            return NO_SUCH;
        }
        tape.sealed = true;
        int answer = takenBy(slots[series]);
        tape.size = 0;
        return answer;
    }

    private int takenBy(Series s) {
        int found = reader.examine(tape, false);
        if (found != 0) {
            return -10 - found;
        }
        if (tape.size > s.room) {
            return TOO_LONG;
        }
        if (reader.first <= s.last) {
            return NOT_NOW;
        }
        tape.first = reader.first;
        tape.last = reader.coder.stamp;
        tape.settle(0, reader);
        return s.take(tape);
    }

    // ---- blocks as they are

    public int count(int series, int what) {
        if (isNone(series) || what < 0 || what > 7) {
            return NO_SUCH;
        }
        Series s = slots[series];
        switch (what) {
            case 0: return s.room;
            case 1: return s.soundPoints();
            case 2: return s.size;
            case 3: return s.late.size;
            case 4: return s.bytes();
            case 5: return s.broken();
            case 6: return gathered(series).size;
            default: return s.last;
        }
    }

    public int block(int series, int block, int what) {
        Block b = blockOf(series, block);
        if (b == null || what < 0 || what > 5) {
            return NO_SUCH;
        }
        if (what == 3) {
            return b.size;
        }
        if (what == 5) {
            return b.sealed ? 1 : 0;
        }
        if (b.wrong != 0) {
            return SPOILT;
        }
        switch (what) {
            case 0: return b.first;
            case 1: return b.last;
            case 2: return b.points;
            default: return b.bits;
        }
    }

    public int octet(int series, int block, int i) {
        Block b = blockOf(series, block);
        if (b == null) {
            return NO_SUCH;
        }
        return i < 0 || i >= b.size ? NONE : b.bytes[i];
    }

    public int fault(int series, int block, int what) {
        Block b = blockOf(series, block);
        if (b == null || what < 0 || what > 1) {
            return NO_SUCH;
        }
        return what == 0 ? b.wrong : b.place;
    }

    public int damage(int series, int block, int i, int to) {
        Block b = blockOf(series, block);
        if (b == null || i < 0 || i >= b.size || to < 0 || to > 255) {
            return NO_SUCH;
        }
        if (!b.sealed) {
            return NOT_NOW;
        }
        int was = b.bytes[i];
        b.bytes[i] = to;
        b.settle(reader.examine(b, true), reader);
        return was;
    }

    public int mends(int series, int block) {
        Block b = blockOf(series, block);
        return b == null ? NO_SUCH : mender.seek(b, NONE);
    }

    public int mend(int series, int block, int i, int what) {
        Block b = blockOf(series, block);
        if (b == null || what < 0 || what > 1) {
            return NO_SUCH;
        }
        if (i < 0 || mender.seek(b, i) <= i) {
            return NONE;
        }
        return what == 0 ? mender.which : mender.becomes;
    }

    public int ways(int series, int what) {
        if (isNone(series) || what < 0 || what > WAY_ANEW) {
            return NO_SUCH;
        }
        Series s = slots[series];
        int found = 0;
        for (int k = 0; k < s.size; k++) {
            Block b = s.blocks[k];
            if (b.wrong == 0) {
                found += reader.countWay(b, what);
            }
        }
        return found;
    }

    public int window(int series, int what) {
        if (isNone(series) || what < 0 || what > 1) {
            return NO_SUCH;
        }
        Series s = slots[series];
        if (s.openBlock() == null || s.coder.lead == NONE) {
            return NONE;
        }
        return what == 0 ? s.coder.lead : s.coder.tail;
    }

    public int dearest(int series, int what) {
        if (isNone(series) || what < 0 || what > 1) {
            return NO_SUCH;
        }
        Series s = slots[series];
        int most = 0;
        int stamp = NONE;
        for (int k = 0; k < s.size; k++) {
            Block b = s.blocks[k];
            if (b.wrong == 0 && reader.findDearest(b, most)) {
                most = reader.dearestCost;
                stamp = reader.dearestStamp;
            }
        }
        return what == 0 || stamp == NONE ? stamp : most;
    }

    // ---- points

    public int has(int series, int stamp) {
        if (isNone(series) || !isStamp(stamp)) {
            return NO_SUCH;
        }
        slots[series].gather(stamp, stamp, reader, mine);
        return mine.size > 0 ? 1 : 0;
    }

    public long at(int series, int stamp) {
        if (isNone(series) || !isStamp(stamp)) {
            return 0L;
        }
        slots[series].gather(stamp, stamp, reader, mine);
        return mine.size > 0 ? mine.bits[0] : 0L;
    }

    public int nearest(int series, int stamp) {
        if (isNone(series) || !isStamp(stamp)) {
            return NO_SUCH;
        }
        return gathered(series).closest(stamp);
    }

    public long point(int series, int i, int what) {
        if (isNone(series) || what < 0 || what > 1 || i < 0) {
            return NONE;
        }
        Points all = gathered(series);
        if (i >= all.size) {
            return NONE;
        }
        return what == 0 ? all.stamps[i] : all.bits[i];
    }

    public int where(int series, int stamp) {
        if (isNone(series) || !isStamp(stamp)) {
            return NO_SUCH;
        }
        Series s = slots[series];
        if (s.late.holds(stamp)) {
            return NONE;
        }
        for (int k = 0; k < s.size; k++) {
            if (s.blocks[k].touches(stamp, stamp)) {
                s.gather(stamp, stamp, reader, mine);
                return mine.size > 0 ? k : NONE;
            }
        }
        return NONE;
    }

    public int since(int series, int stamp) {
        if (isNone(series) || !isStamp(stamp)) {
            return NO_SUCH;
        }
        slots[series].gather(0, stamp, reader, mine);
        return mine.lastStamp();
    }

    public int gap(int series, int what) {
        if (isNone(series) || what < 0 || what > 1) {
            return NO_SUCH;
        }
        return gathered(series).longestGap(what == 0);
    }

    public int row(int series, int what) {
        if (isNone(series) || what < 0 || what > 1) {
            return NO_SUCH;
        }
        Points all = gathered(series);
        return what == 0 ? all.longestSame() : all.longestRise();
    }

    public int passes(int series, long bits) {
        if (isNone(series)) {
            return NO_SUCH;
        }
        return Numbers.isNumber(bits) ? gathered(series).passings(bits) : NONE;
    }

    // ---- spans

    public int span(int series, int from, int to, int what) {
        if (isNone(series) || from > to || what < 0 || what > 6) {
            return NO_SUCH;
        }
        if (what == 1) {
            return slots[series].opened(from, to);
        }
        slots[series].gather(from, to, reader, mine);
        switch (what) {
            case 0: return mine.size;
            case 2: return mine.size > 0 ? mine.stamps[0] : NONE;
            case 3: return mine.lastStamp();
            default: return mine.countKind(what);
        }
    }

    public long value(int series, int from, int to, int what) {
        if (isNone(series) || from > to || what < 0 || what > 4) {
            return NO_NUMBER;
        }
        slots[series].gather(from, to, reader, mine);
        mine.keepNumbers();
        if (mine.size == 0) {
            return NO_NUMBER;
        }
        switch (what) {
            case 0: return mine.bits[0];
            case 1: return mine.bits[mine.size - 1];
            case 2: return mine.leastOf();
            case 3: return mine.greatestOf();
            default: return mine.total();
        }
    }

    public int above(int series, int from, int to, long bits) {
        if (isNone(series) || from > to) {
            return NO_SUCH;
        }
        if (!Numbers.isNumber(bits)) {
            return NONE;
        }
        slots[series].gather(from, to, reader, mine);
        mine.keepNumbers();
        return mine.countAbove(bits);
    }

    public long least(int series, int from, int to, int k) {
        if (isNone(series) || from > to || k < 0) {
            return NO_NUMBER;
        }
        slots[series].gather(from, to, reader, mine);
        mine.keepNumbers();
        return k < mine.size ? mine.ranked(k) : NO_NUMBER;
    }

    public long area(int series, int from, int to) {
        if (isNone(series) || from > to) {
            return NO_NUMBER;
        }
        slots[series].gather(from, to, reader, mine);
        return mine.surface();
    }

    // ---- two series

    public int both(int series, int other, int what) {
        if (isNone(series) || isNone(other) || what < 0 || what > 1) {
            return NO_SUCH;
        }
        gatherBoth(series, other);
        int found = 0;
        for (int n = pairs.begin(); n > 0 && pairs.advance(); n--) {
            if (what == 0 ? pairs.isInBoth() : pairs.isAlike()) {
                found++;
            }
        }
        return found;
    }

    public int differ(int series, int other) {
        if (isNone(series) || isNone(other)) {
            return NO_SUCH;
        }
        gatherBoth(series, other);
        for (int n = pairs.begin(); n > 0 && pairs.advance(); n--) {
            if (!pairs.isAlike()) {
                return pairs.stamp;
            }
        }
        return NONE;
    }

    public int join(int series, int other, int to) {
        if (isNone(series) || isNone(other) || !isSlot(to)) {
            return NO_SUCH;
        }
        if (slots[series].broken() != 0 || slots[other].broken() != 0) {
            return SPOILT;
        }
        gatherBoth(series, other);
        spare.start(slots[series].room);
        for (int n = pairs.begin(); n > 0 && pairs.advance(); n--) {
            if (spare.put(pairs.stamp, pairs.bits) < 0) {
                return TOO_MANY;
            }
        }
        return useSpare(to);
    }

    public int copy(int series, int to) {
        if (isNone(series) || !isSlot(to)) {
            return NO_SUCH;
        }
        if (series != to) {
            slots[to].become(slots[series]);
        }
        return 0;
    }

    // ---- packed anew

    public int merge(int series) {
        if (isNone(series)) {
            return NO_SUCH;
        }
        if (slots[series].broken() != 0) {
            return SPOILT;
        }
        gathered(series);
        return packMine(series, slots[series].room);
    }

    public int repack(int series, int room) {
        if (isNone(series) || !isRoom(room)) {
            return NO_SUCH;
        }
        if (slots[series].broken() != 0) {
            return SPOILT;
        }
        gathered(series);
        return packMine(series, room);
    }

    public int thin(int series, int step) {
        if (isNone(series) || step < 1 || step > GREATEST_STEP) {
            return NO_SUCH;
        }
        if (slots[series].broken() != 0) {
            return SPOILT;
        }
        int gone = gathered(series).dropAlike(step);
        return packMine(series, slots[series].room) < 0 ? TOO_MANY : gone;
    }

    public int cuts(int series, int from, int to) {
        if (isNone(series) || from > to) {
            return NO_SUCH;
        }
        if (slots[series].broken() != 0) {
            return SPOILT;
        }
        int gone = gathered(series).dropSpan(from, to);
        return packMine(series, slots[series].room) < 0 ? TOO_MANY : gone;
    }

    public int rounds(int series, int bits) {
        if (isNone(series) || bits < 1 || bits > FRACTION_BITS) {
            return NO_SUCH;
        }
        if (slots[series].broken() != 0) {
            return SPOILT;
        }
        int changed = gathered(series).clearLowest(bits);
        return packMine(series, slots[series].room) < 0 ? TOO_MANY : changed;
    }

    public int rounded(int series, int bits) {
        if (isNone(series) || bits < 1 || bits > FRACTION_BITS) {
            return NO_SUCH;
        }
        if (slots[series].broken() != 0) {
            return SPOILT;
        }
        gathered(series).clearLowest(bits);
        return scales.bytesBy(mine, slots[series].room);
    }

    public int best(int series) {
        if (isNone(series)) {
            return NO_SUCH;
        }
        if (slots[series].broken() != 0) {
            return SPOILT;
        }
        gathered(series);
        int chosen = NONE;
        int fewest = 0;
        for (int room = LEAST_ROOM; room <= MOST_ROOM; room++) {
            int bytes = scales.bytesBy(mine, room);
            if (bytes >= 0 && (chosen == NONE || bytes < fewest)) {
                chosen = room;
                fewest = bytes;
            }
        }
        return chosen;
    }

    private int packMine(int to, int room) {
        spare.start(room);
        for (int i = 0; i < mine.size; i++) {
            if (spare.put(mine.stamps[i], mine.bits[i]) < 0) {
                return TOO_MANY;
            }
        }
        return useSpare(to);
    }

    private int useSpare(int to) {
        Series old = slots[to];
        slots[to] = spare;
        spare = old;
        return slots[to].size;
    }

    // ---- what is there

    private Points gathered(int series) {
        slots[series].gather(0, LAST_STAMP, reader, mine);
        return mine;
    }

    private void gatherBoth(int series, int other) {
        slots[series].gather(0, LAST_STAMP, reader, mine);
        slots[other].gather(0, LAST_STAMP, reader, theirs);
    }

    private Block blockOf(int series, int block) {
        if (isNone(series) || block < 0 || block >= slots[series].size) {
            return null;
        }
        return slots[series].blocks[block];
    }

    private boolean isNone(int series) {
        return !isSlot(series) || !slots[series].begun;
    }

    private static boolean isSlot(int series) {
        return series >= 0 && series < SLOTS;
    }

    private static boolean isRoom(int room) {
        return room >= LEAST_ROOM && room <= MOST_ROOM;
    }

    private static boolean isStamp(int stamp) {
        return stamp >= 0 && stamp <= LAST_STAMP;
    }

    /** Blocks in the order of their stamps, the last one maybe open, and points that came late. */
    private static final class Series {
        final Block[] blocks = new Block[MOST_BLOCKS];
        final Points late = new Points(MOST_LATE);
        /** Stands behind the last point of the open block. */
        final Coder coder = new Coder();
        int size;
        int room;
        int last = NONE;
        boolean begun;

        Series() {
            for (int k = 0; k < MOST_BLOCKS; k++) {
                blocks[k] = new Block();
            }
        }

        void start(int newRoom) {
            begun = true;
            room = newRoom;
            size = 0;
            last = NONE;
            late.size = 0;
        }

        void become(Series other) {
            begun = other.begun;
            room = other.room;
            size = other.size;
            last = other.last;
            late.become(other.late);
            coder.become(other.coder);
            for (int k = 0; k < size; k++) {
                blocks[k].become(other.blocks[k]);
            }
        }

        Block openBlock() {
            return size > 0 && !blocks[size - 1].sealed ? blocks[size - 1] : null;
        }

        /** If so, the coder has weighed the point. */
        boolean fits(int stamp, long value) {
            Block open = openBlock();
            if (open == null) {
                return false;
            }
            coder.weigh(stamp, value);
            return Block.sealedBytes(open.bits + coder.cost) <= room;
        }

        /** The block in which the point is then, or TOO_MANY. */
        int put(int stamp, long value) {
            if (fits(stamp, value)) {
                blocks[size - 1].write(coder);
                coder.step();
            } else {
                if (size >= MOST_BLOCKS) {
                    return TOO_MANY;
                }
                closeOpen();
                blocks[size].begin(stamp, value);
                coder.begin(stamp, value);
                size++;
            }
            last = stamp;
            return size - 1;
        }

        /** A sealed block comes; a block that is no longer the last one cannot stay open. */
        int take(Block come) {
            if (size >= MOST_BLOCKS) {
                return TOO_MANY;
            }
            closeOpen();
            blocks[size].become(come);
            size++;
            last = come.last;
            return size - 1;
        }

        private void closeOpen() {
            Block open = openBlock();
            if (open != null) {
                open.close();
            }
        }

        int remove(int which) {
            Block gone = blocks[which];
            for (int k = which; k < size - 1; k++) {
                blocks[k] = blocks[k + 1];
            }
            blocks[size - 1] = gone;
            size--;
            return size;
        }

        int soundPoints() {
            int sum = 0;
            for (int k = 0; k < size; k++) {
                if (blocks[k].wrong == 0) {
                    sum += blocks[k].points;
                }
            }
            return sum;
        }

        int bytes() {
            int sum = 0;
            for (int k = 0; k < size; k++) {
                sum += blocks[k].size;
            }
            return sum;
        }

        int broken() {
            int set = 0;
            for (int k = 0; k < size; k++) {
                if (blocks[k].wrong != 0) {
                    set |= 1 << k;
                }
            }
            return set;
        }

        int opened(int from, int to) {
            int found = 0;
            for (int k = 0; k < size; k++) {
                if (blocks[k].touches(from, to)) {
                    found++;
                }
            }
            return found;
        }

        /** The points of a span, late ones among them, by their stamps. */
        void gather(int from, int to, Reader reader, Points out) {
            out.size = 0;
            int next = late.firstFrom(from);
            for (int k = 0; k < size; k++) {
                if (blocks[k].touches(from, to)) {
                    next = gatherBlock(blocks[k], from, to, next, reader, out);
                }
            }
            while (next < late.size && late.stamps[next] <= to) {
                out.push(late.stamps[next], late.bits[next]);
                next++;
            }
        }

        /** Tells which late point comes next behind the block. */
        private int gatherBlock(Block b, int from, int to, int nextLate, Reader reader, Points out) {
            int next = nextLate;
            reader.open(b);
            for (int i = 0; i < b.points; i++) {
                if (i > 0 && reader.read() != 0) {
                    break;
                }
                int stamp = reader.coder.stamp;
                if (stamp > to) {
                    break;
                }
                if (stamp < from) {
                    continue;
                }
                while (next < late.size && late.stamps[next] < stamp) {
                    out.push(late.stamps[next], late.bits[next]);
                    next++;
                }
                if (next >= late.size || late.stamps[next] != stamp) {
                    out.push(stamp, reader.coder.value);
                }
            }
            return next;
        }
    }

    /** Bytes of a block, and what has been found out about them. */
    private static final class Block {
        final int[] bytes = new int[MOST_ROOM];
        int size;
        /** Bits behind the head. */
        int bits;
        int points;
        /** The first and the last stamp as they were when it was sealed or came. */
        int first;
        int last;
        boolean sealed;
        int wrong;
        int place = NONE;

        static int openBytes(int bits) {
            return HEAD_BYTES + (bits + 7) / 8;
        }

        static int sealedBytes(int bits) {
            return openBytes(bits) + 1;
        }

        void begin(int stamp, long value) {
            size = 0;
            append(stamp);
            append((int) (value >>> 32));
            append((int) value);
            bytes[12] = 0;
            bytes[13] = 1;
            size = HEAD_BYTES;
            bits = 0;
            points = 1;
            first = stamp;
            last = stamp;
            sealed = false;
            wrong = 0;
            place = NONE;
        }

        /** Four bytes, the highest first. */
        void append(int number) {
            for (int shift = 24; shift >= 0 && size < MOST_ROOM; shift -= 8) {
                bytes[size] = (number >>> shift) & 255;
                size++;
            }
        }

        /** The point that the coder has weighed. */
        void write(Coder c) {
            writeBits(CLASS_PREFIX[c.kind], CLASS_PREFIX_BITS[c.kind]);
            writeBits(c.second, CLASS_BITS[c.kind]);
            if (c.way == WAY_SAME) {
                writeBits(0, 1);
            } else if (c.way == WAY_WINDOW) {
                writeBits(2, 2);
                writeBits(c.differing >>> c.tail, 64 - c.lead - c.tail);
            } else {
                int width = 64 - c.ownLead - c.ownTail;
                writeBits(3, 2);
                writeBits(c.ownLead, 5);
                writeBits(width - 1, 6);
                writeBits(c.differing >>> c.ownTail, width);
            }
            points++;
            bytes[12] = points >> 8;
            bytes[13] = points & 255;
            last = c.nextStamp;
            size = openBytes(bits);
        }

        private void writeBits(long number, int width) {
            int left = width;
            while (left > 0) {
                int index = HEAD_BYTES + (bits >> 3);
                int free = 8 - (bits & 7);
                int now = free < left ? free : left;
                if (index >= MOST_ROOM) {
                    return;
                }
                int part = (int) (number >>> (left - now)) & ((1 << now) - 1);
                int old = free == 8 ? 0 : bytes[index];
                bytes[index] = old | (part << (free - now));
                bits += now;
                left -= now;
            }
        }

        void close() {
            if (size < MOST_ROOM) {
                bytes[size] = checkOf(size);
                size++;
            }
            sealed = true;
        }

        /** The CHECK that is due behind so many bytes. */
        int checkOf(int length) {
            int check = 7;
            for (int i = 0; i < length; i++) {
                check = (check * 31 + bytes[i]) % 251;
            }
            return check;
        }

        void settle(int found, Reader by) {
            wrong = found;
            place = by.place;
            if (found == 0) {
                points = by.points;
                bits = by.bits;
            }
        }

        boolean touches(int from, int to) {
            return wrong == 0 && first <= to && last >= from;
        }

        void become(Block other) {
            System.arraycopy(other.bytes, 0, bytes, 0, other.size);
            size = other.size;
            bits = other.bits;
            points = other.points;
            first = other.first;
            last = other.last;
            sealed = other.sealed;
            wrong = other.wrong;
            place = other.place;
        }
    }

    /** The point ahead, the window, and how the next point is told behind them. */
    private static final class Coder {
        int stamp;
        int far;
        long value;
        /** NONE while there is no window. */
        int lead = NONE;
        int tail;

        int nextStamp;
        long nextValue;
        int second;
        int kind;
        int way;
        int cost;
        long differing;
        int ownLead;
        int ownTail;

        void begin(int firstStamp, long firstValue) {
            stamp = firstStamp;
            value = firstValue;
            far = 0;
            lead = NONE;
            tail = 0;
        }

        void weigh(int comingStamp, long comingValue) {
            nextStamp = comingStamp;
            nextValue = comingValue;
            second = comingStamp - stamp - far;
            kind = kindOf(second);
            differing = value ^ comingValue;
            int ahead = Long.numberOfLeadingZeros(differing);
            int behind = Long.numberOfTrailingZeros(differing);
            ownLead = Math.min(ahead, MOST_ZEROS_TOLD);
            ownTail = behind;
            cost = CLASS_PREFIX_BITS[kind] + CLASS_BITS[kind];
            if (differing == 0) {
                way = WAY_SAME;
                cost += 1;
            } else if (isInWindow(ahead, behind)) {
                way = WAY_WINDOW;
                cost += 2 + 64 - lead - tail;
            } else {
                way = WAY_ANEW;
                cost += 2 + 5 + 6 + 64 - ownLead - ownTail;
            }
        }

        private boolean isInWindow(int ahead, int behind) {
            return lead != NONE && ahead >= lead && behind >= tail
                    && ahead + behind - lead - tail <= MOST_BITS_WASTED;
        }

        private static int kindOf(int second) {
            if (second == 0) {
                return 0;
            }
            if (second >= -63 && second <= 64) {
                return 1;
            }
            if (second >= -255 && second <= 256) {
                return 2;
            }
            return second >= -2047 && second <= 2048 ? 3 : 4;
        }

        /** The point that was weighed is the one ahead then. */
        void step() {
            far = nextStamp - stamp;
            stamp = nextStamp;
            value = nextValue;
            if (way == WAY_ANEW) {
                lead = ownLead;
                tail = ownTail;
            }
        }

        /** Bytes of all blocks of the points, packed anew, or TOO_MANY. */
        int bytesBy(Points row, int room) {
            int blocks = 0;
            int bits = 0;
            int sum = 0;
            for (int i = 0; i < row.size; i++) {
                if (blocks > 0) {
                    weigh(row.stamps[i], row.bits[i]);
                    if (Block.sealedBytes(bits + cost) <= room) {
                        bits += cost;
                        step();
                        continue;
                    }
                    sum += Block.sealedBytes(bits);
                }
                if (blocks >= MOST_BLOCKS) {
                    return TOO_MANY;
                }
                blocks++;
                bits = 0;
                begin(row.stamps[i], row.bits[i]);
            }
            return blocks > 0 ? sum + Block.openBytes(bits) : 0;
        }

        void become(Coder other) {
            stamp = other.stamp;
            far = other.far;
            value = other.value;
            lead = other.lead;
            tail = other.tail;
        }
    }

    /** Goes through a block point by point; the coder stands on the point that was read last. */
    private static final class Reader {
        final Coder coder = new Coder();
        int first;
        int points;
        int bits;
        int place;
        int dearestCost;
        int dearestStamp;

        private int[] bytes;
        private int position;
        private int limit;
        private boolean ended;
        private int kind;
        private int way;
        private int lead;
        private int tail;
        private long differing;
        private boolean misshapen;

        void open(Block b) {
            bytes = b.bytes;
            limit = (b.sealed ? b.size - 1 : b.size) * 8;
            position = 0;
            ended = false;
            first = (int) takeBits(32);
            long value = takeBits(64);
            points = (int) takeBits(16);
            coder.begin(first, value);
        }

        /** The fault of a sealed block; known: its first and last stamps are. */
        int examine(Block b, boolean known) {
            place = NONE;
            if (b.size <= HEAD_BYTES || b.bytes[b.size - 1] != b.checkOf(b.size - 1)) {
                return FAULT_CHECK;
            }
            open(b);
            place = 0;
            if (points == 0) {
                return FAULT_EMPTY;
            }
            if (!isStamp(first)) {
                return FAULT_STAMP;
            }
            for (int i = 1; i < points; i++) {
                place = position - HEAD_BITS;
                int found = read();
                if (found != 0) {
                    return found;
                }
            }
            bits = position - HEAD_BITS;
            place = bits;
            int rest = limit - position;
            if (rest > 7 || takeBits(rest) != 0) {
                return FAULT_REST;
            }
            if (known && (first != b.first || coder.stamp != b.last)) {
                place = 0;
                return FAULT_OTHER;
            }
            place = NONE;
            return 0;
        }

        /** Reads the next point: its fault, the least of several. */
        int read() {
            kind = takeKind();
            long second = takeSecond(kind);
            takeValue();
            if (ended) {
                return FAULT_SHORT;
            }
            long far = coder.far + second;
            long stamp = coder.stamp + far;
            if (far < 1 || stamp > LAST_STAMP) {
                return FAULT_STAMP;
            }
            if (misshapen) {
                return FAULT_FORM;
            }
            coder.weigh((int) stamp, coder.value ^ differing);
            if (!isToldSo()) {
                return FAULT_FORM;
            }
            coder.step();
            return 0;
        }

        /** There is one way alone to tell a point, so what was read has to be what would be written. */
        private boolean isToldSo() {
            return coder.kind == kind && coder.way == way
                    && (way != WAY_ANEW || coder.ownLead == lead && coder.ownTail == tail);
        }

        private int takeKind() {
            int ones = 0;
            while (ones < 4 && takeBits(1) == 1) {
                ones++;
            }
            return ones;
        }

        private long takeSecond(int ofKind) {
            int width = CLASS_BITS[ofKind];
            if (width == 0) {
                return 0;
            }
            long number = takeBits(width);
            return number > 1L << (width - 1) ? number - (1L << width) : number;
        }

        private void takeValue() {
            lead = 0;
            tail = 0;
            int width = 0;
            if (takeBits(1) == 0) {
                way = WAY_SAME;
            } else if (takeBits(1) == 0) {
                way = WAY_WINDOW;
                tail = coder.tail;
                width = coder.lead == NONE ? 0 : 64 - coder.lead - tail;
            } else {
                way = WAY_ANEW;
                lead = (int) takeBits(5);
                width = (int) takeBits(6) + 1;
                tail = 64 - lead - width;
            }
            long own = takeBits(width);
            // More bits than a value has are no value; they are read, as it may end within them.
            misshapen = tail < 0;
            differing = misshapen ? 0 : own << tail;
        }

        private long takeBits(int width) {
            if (width > limit - position) {
                ended = true;
                return 0;
            }
            long number = 0;
            int left = width;
            while (left > 0) {
                int free = 8 - (position & 7);
                int now = free < left ? free : left;
                int part = (bytes[position >> 3] >> (free - now)) & ((1 << now) - 1);
                number = (number << now) | part;
                position += now;
                left -= now;
            }
            return number;
        }

        /** How many points of a sound block are of a class (0 .. 4) or a way (5 .. 7). */
        int countWay(Block b, int what) {
            int found = 0;
            open(b);
            for (int i = 1; i < b.points && read() == 0; i++) {
                if (what == kind || what == way) {
                    found++;
                }
            }
            return found;
        }

        /** If a point of a sound block takes more bits, the first of those that take most is kept. */
        boolean findDearest(Block b, int than) {
            dearestCost = than;
            open(b);
            for (int i = 1; i < b.points && read() == 0; i++) {
                if (coder.cost > dearestCost) {
                    dearestCost = coder.cost;
                    dearestStamp = coder.stamp;
                }
            }
            return dearestCost > than;
        }
    }

    /** Finds the changes of one byte by which a broken block is sound. */
    private static final class Mender {
        private static final int MODULUS = 251;
        private static final int FACTOR = 31;
        /** 31 times 81 is 1 modulo 251. */
        private static final int UNFACTOR = 81;

        private final Reader reader;
        private int found;
        private int wanted;
        int which;
        int becomes;

        Mender(Reader reader) {
            this.reader = reader;
        }

        /** How many there are; which and becomes tell the wanted one. */
        int seek(Block b, int wantedOne) {
            found = 0;
            wanted = wantedOne;
            if (!b.sealed || b.wrong == 0) {
                return 0;
            }
            int length = b.size - 1;
            int due = b.checkOf(length);
            int away = b.bytes[length] - due;
            int factor = 1;
            for (int i = 1; i < length; i++) {
                factor = factor * UNFACTOR % MODULUS;
            }
            // Of each byte only one remainder makes the CHECK right, so few changes are left to try.
            for (int i = 0; i < length && b.bytes[length] < MODULUS; i++) {
                int remainder = Math.floorMod(b.bytes[i] + away * factor, MODULUS);
                tryChange(b, i, remainder);
                tryChange(b, i, remainder + MODULUS);
                factor = factor * FACTOR % MODULUS;
            }
            tryChange(b, length, due);
            return found;
        }

        private void tryChange(Block b, int index, int to) {
            int was = b.bytes[index];
            if (to > 255 || to == was) {
                return;
            }
            b.bytes[index] = to;
            if (reader.examine(b, true) == 0) {
                if (found == wanted) {
                    which = index;
                    becomes = to;
                }
                found++;
            }
            b.bytes[index] = was;
        }
    }

    /** A row of points by their stamps. */
    private static final class Points {
        final int[] stamps;
        final long[] bits;
        int size;

        Points(int most) {
            stamps = new int[most];
            bits = new long[most];
        }

        void push(int stamp, long value) {
            if (size < stamps.length) {
                stamps[size] = stamp;
                bits[size] = value;
                size++;
            }
        }

        void become(Points other) {
            size = 0;
            for (int i = 0; i < other.size; i++) {
                push(other.stamps[i], other.bits[i]);
            }
        }

        /** Which is the first with a stamp that is not below this one. */
        int firstFrom(int stamp) {
            int i = 0;
            while (i < size && stamps[i] < stamp) {
                i++;
            }
            return i;
        }

        boolean holds(int stamp) {
            int i = firstFrom(stamp);
            return i < size && stamps[i] == stamp;
        }

        /** In its place, or in place of one of that stamp; not if there is no room for it. */
        boolean insert(int stamp, long value) {
            int place = firstFrom(stamp);
            if (place < size && stamps[place] == stamp) {
                bits[place] = value;
                return true;
            }
            if (size >= stamps.length) {
                return false;
            }
            for (int i = size; i > place; i--) {
                stamps[i] = stamps[i - 1];
                bits[i] = bits[i - 1];
            }
            stamps[place] = stamp;
            bits[place] = value;
            size++;
            return true;
        }

        int lastStamp() {
            return size > 0 ? stamps[size - 1] : NONE;
        }

        int closest(int stamp) {
            int next = firstFrom(stamp);
            if (next == 0) {
                return size > 0 ? stamps[0] : NONE;
            }
            if (next == size || stamp - stamps[next - 1] <= stamps[next] - stamp) {
                return stamps[next - 1];
            }
            return stamps[next];
        }

        int longestGap(boolean length) {
            int longest = NONE;
            int begin = NONE;
            for (int i = 1; i < size; i++) {
                int far = stamps[i] - stamps[i - 1];
                if (far > longest) {
                    longest = far;
                    begin = stamps[i - 1];
                }
            }
            return length ? longest : begin;
        }

        int longestSame() {
            int longest = 0;
            int now = 0;
            for (int i = 0; i < size; i++) {
                now = i > 0 && bits[i] == bits[i - 1] ? now + 1 : 1;
                longest = Math.max(longest, now);
            }
            return longest;
        }

        int longestRise() {
            int longest = 0;
            int now = 0;
            for (int i = 0; i < size; i++) {
                if (!Numbers.isNumber(bits[i])) {
                    now = 0;
                } else if (now > 0 && Numbers.order(bits[i]) > Numbers.order(bits[i - 1])) {
                    now++;
                } else {
                    now = 1;
                }
                longest = Math.max(longest, now);
            }
            return longest;
        }

        int passings(long limit) {
            int found = 0;
            long order = Numbers.order(limit);
            for (int i = 1; i < size; i++) {
                if (Numbers.isNumber(bits[i - 1]) && Numbers.isNumber(bits[i])
                        && (Numbers.order(bits[i - 1]) < order) != (Numbers.order(bits[i]) < order)) {
                    found++;
                }
            }
            return found;
        }

        /** 4: no numbers, 5: -0.0, 6: infinite. */
        int countKind(int what) {
            int found = 0;
            for (int i = 0; i < size; i++) {
                boolean counts = what == 4 ? !Numbers.isNumber(bits[i])
                        : what == 5 ? bits[i] == Numbers.MINUS_ZERO
                        : Numbers.isInfinite(bits[i]);
                if (counts) {
                    found++;
                }
            }
            return found;
        }

        void keepNumbers() {
            int kept = 0;
            for (int i = 0; i < size; i++) {
                if (Numbers.isNumber(bits[i])) {
                    keep(kept, i);
                    kept++;
                }
            }
            size = kept;
        }

        private void keep(int to, int from) {
            stamps[to] = stamps[from];
            bits[to] = bits[from];
        }

        int dropAlike(int step) {
            int kept = 0;
            for (int i = 0; i < size; i++) {
                if (kept == 0 || stamps[i] / step != stamps[kept - 1] / step) {
                    keep(kept, i);
                    kept++;
                }
            }
            return shrink(kept);
        }

        int dropSpan(int from, int to) {
            int kept = 0;
            for (int i = 0; i < size; i++) {
                if (stamps[i] < from || stamps[i] > to) {
                    keep(kept, i);
                    kept++;
                }
            }
            return shrink(kept);
        }

        private int shrink(int kept) {
            int gone = size - kept;
            size = kept;
            return gone;
        }

        int clearLowest(int width) {
            long mask = -1L << width;
            int changed = 0;
            for (int i = 0; i < size; i++) {
                if (Numbers.isFinite(bits[i]) && (bits[i] & mask) != bits[i]) {
                    bits[i] &= mask;
                    changed++;
                }
            }
            return changed;
        }

        // From here on all points have to be numbers, but for surface().

        long leastOf() {
            long chosen = bits[0];
            for (int i = 1; i < size; i++) {
                if (Numbers.order(bits[i]) < Numbers.order(chosen)) {
                    chosen = bits[i];
                }
            }
            return chosen;
        }

        long greatestOf() {
            long chosen = bits[0];
            for (int i = 1; i < size; i++) {
                if (Numbers.order(bits[i]) > Numbers.order(chosen)) {
                    chosen = bits[i];
                }
            }
            return chosen;
        }

        int countAbove(long limit) {
            int found = 0;
            for (int i = 0; i < size; i++) {
                if (Numbers.order(bits[i]) > Numbers.order(limit)) {
                    found++;
                }
            }
            return found;
        }

        private int countBelow(long order) {
            int found = 0;
            for (int i = 0; i < size; i++) {
                if (Numbers.order(bits[i]) < order) {
                    found++;
                }
            }
            return found;
        }

        /** Halves the range of orders, so that nothing has to be sorted. */
        long ranked(int k) {
            long low = -Numbers.INFINITE;
            long high = Numbers.INFINITE;
            for (int n = 0; n < 64 && low < high; n++) {
                long middle = (low | high) - ((low ^ high) >> 1);
                if (countBelow(middle) <= k) {
                    low = middle;
                } else {
                    high = middle - 1;
                }
            }
            int left = k - countBelow(low);
            for (int i = 0; i < size; i++) {
                if (Numbers.order(bits[i]) == low) {
                    if (left == 0) {
                        return bits[i];
                    }
                    left--;
                }
            }
            return NO_NUMBER;
        }

        long total() {
            long sum = 0;
            for (int i = 0; i < size && sum != NO_NUMBER; i++) {
                sum = Numbers.plus(sum, bits[i]);
            }
            return sum;
        }

        long surface() {
            long sum = 0;
            for (int i = 0; i < size - 1 && sum != NO_NUMBER; i++) {
                if (Numbers.isNumber(bits[i])) {
                    sum = Numbers.plus(sum, Numbers.times(bits[i], stamps[i + 1] - stamps[i]));
                }
            }
            return sum;
        }
    }

    /** Walks two rows of points side by side, stamp by stamp. */
    private static final class Pairs {
        private final Points one;
        private final Points two;
        private int i;
        private int j;
        private boolean inOne;
        private boolean inTwo;
        private boolean alike;
        int stamp;
        /** Those of the first row where both have the stamp. */
        long bits;

        Pairs(Points one, Points two) {
            this.one = one;
            this.two = two;
        }

        /** How many steps there are at most. */
        int begin() {
            i = 0;
            j = 0;
            return one.size + two.size;
        }

        boolean advance() {
            boolean moreOne = i < one.size;
            boolean moreTwo = j < two.size;
            if (!moreOne && !moreTwo) {
                return false;
            }
            inOne = moreOne && (!moreTwo || one.stamps[i] <= two.stamps[j]);
            inTwo = moreTwo && (!moreOne || two.stamps[j] <= one.stamps[i]);
            alike = inOne && inTwo && one.bits[i] == two.bits[j];
            stamp = inOne ? one.stamps[i] : two.stamps[j];
            bits = inOne ? one.bits[i] : two.bits[j];
            i += inOne ? 1 : 0;
            j += inTwo ? 1 : 0;
            return true;
        }

        boolean isInBoth() {
            return inOne && inTwo;
        }

        boolean isAlike() {
            return alike;
        }
    }

    /** Doubles, held as their bits and reckoned with in whole numbers, rounded to the nearest even. */
    private static final class Numbers {
        static final long INFINITE = 0x7ff0000000000000L;
        static final long MINUS_ZERO = 0x8000000000000000L;
        private static final long UNSIGNED = 0x7fffffffffffffffL;
        private static final long SIGN = MINUS_ZERO;
        private static final long HIDDEN = 1L << FRACTION_BITS;
        /** Bits kept below the last one of a fraction, by which it is rounded. */
        private static final int GUARDS = 8;
        private static final long LOW_HALF = 0xffffffffL;

        static boolean isNumber(long bits) {
            return (bits & UNSIGNED) <= INFINITE;
        }

        static boolean isInfinite(long bits) {
            return (bits & UNSIGNED) == INFINITE;
        }

        static boolean isFinite(long bits) {
            return (bits & UNSIGNED) < INFINITE;
        }

        /** Stands in the order of the numbers; the two zeros are alike. */
        static long order(long bits) {
            return bits >= 0 ? bits : -(bits & UNSIGNED);
        }

        private static int exponent(long bits) {
            return Math.max(1, (int) ((bits & UNSIGNED) >>> FRACTION_BITS));
        }

        private static long fraction(long bits) {
            long low = bits & (HIDDEN - 1);
            return (bits & INFINITE) == 0 ? low : low | HIDDEN;
        }

        /** NO_NUMBER if both are infinite against one another. */
        static long plus(long a, long b) {
            if (isInfinite(a)) {
                return isInfinite(b) && a != b ? NO_NUMBER : a;
            }
            if (isInfinite(b)) {
                return b;
            }
            boolean ordered = (a & UNSIGNED) >= (b & UNSIGNED);
            long great = ordered ? a : b;
            long small = ordered ? b : a;
            int exponent = exponent(great);
            long high = fraction(great) << GUARDS;
            long low = shiftedDown(fraction(small) << GUARDS, exponent - exponent(small));
            if ((a ^ b) >= 0) {
                return roundedOff(great & SIGN, exponent, high + low);
            }
            return high == low ? 0 : roundedOff(great & SIGN, exponent, high - low);
        }

        /** What is lost below stays as a lowest bit, so that halves are told from what is above them. */
        private static long shiftedDown(long number, int by) {
            if (by > 62) {
                return number == 0 ? 0 : 1;
            }
            long lost = number & ((1L << by) - 1);
            return (number >>> by) | (lost == 0 ? 0 : 1);
        }

        /** A number times a whole one, 1 .. 2000000000. */
        static long times(long a, int whole) {
            if (isInfinite(a)) {
                return a;
            }
            long number = fraction(a);
            long low = (number & LOW_HALF) * whole;
            long high = (number >>> 32) * whole + (low >>> 32);
            low &= LOW_HALF;
            int above = Math.max(0, 64 - Long.numberOfLeadingZeros(high) - 29);
            long lost = low & ((1L << above) - 1);
            long product = (high << (32 - above)) | (low >>> above) | (lost == 0 ? 0 : 1);
            return roundedOff(a & SIGN, exponent(a) + GUARDS + above, product);
        }

        /** Of a number with guard bits below, of at most 62 bits in all. */
        private static long roundedOff(long sign, int exponent, long number) {
            int top = FRACTION_BITS + GUARDS;
            int e = exponent;
            long m = number;
            if (m >>> (top + 1) != 0) {
                m = shiftedDown(m, 1);
                e++;
            } else {
                int up = Math.min(Long.numberOfLeadingZeros(m) - (63 - top), e - 1);
                m <<= up;
                e -= up;
            }
            if (m == 0) {
                return sign;
            }
            long rest = m & ((1L << GUARDS) - 1);
            long half = 1L << (GUARDS - 1);
            m >>>= GUARDS;
            if (rest > half || rest == half && (m & 1) == 1) {
                m++;
            }
            // The hidden bit, and a carry out of the fraction, count the exponent up by themselves.
            long bits = e >= 2047 ? INFINITE : ((long) (e - 1) << FRACTION_BITS) + m;
            return sign | Math.min(bits, INFINITE);
        }
    }
}
