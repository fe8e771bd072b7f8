/**
 * A desk that packs rows of numbers into streams of bytes, opens them again, keeps
 * what streams had and makes one stream of another. ../shared/DOC.md has its promises.
 */
public final class PackDesk {
    public static final int NONE = -1, UNKNOWN = -101, OUTSIDE = -102, STATE = -103, FULL = -104;

    private static final int MOST_ROWS = 60, MOST_NUMBERS = 24, MOST_STREAMS = 24, MOST_BYTES = 400;
    private static final int MOST_BODIES = 30, MOST_HOUSES = 6, MOST_ENTRIES = 12, MOST_DELTAS = 16;

    private static final int TRUTHS = 0, BYTES = 1, CHARS = 2, SHORTS = 3, INTS = 4, FLOATS = 6, DOUBLES = 7;

    private static final int PLAIN = 0, STEPS = 1, TWICE = 2, RUNS = 3, WIDE = 4;

    private static final int SIZED = 0, FLOORED = 1, RAISED = 2, SIGNED = 4, TURNED = 5;

    private static final int FINE = 0;
    private static final int NULL = 1, INDEX = 2, CAST = 3, SIZE = 4, ZERO = 5, ENDS = 6, SHORT = 7;
    private static final int HARMED = 8, MISFIT = 9;

    /** The bytes of a PIECE beside those that its CODER made, and those of them that stand ahead. */
    private static final int FRAME = 7, HEAD = 5;
    private static final int FIRST_MARK = 160;
    /** RUNS makes the most: ten bytes of a long and one of its length, for each of 24. */
    private static final int MOST_MADE = 264;
    private static final int LEAST_COPY = 4;

    private static final long LONG_SIGN = 1L << 63, ALL_BUT_LONG_SIGN = LONG_SIGN - 1;
    /** A float's sign reaches up through the long that tells it, as an int's does. */
    private static final long INT_SIGN = -1L << 31, ALL_BUT_INT_SIGN = (1L << 31) - 1;
    private static final long ENDLESS_FLOAT = 0x7F800000L, ENDLESS_DOUBLE = 0x7FF0000000000000L;
    private static final long FLOAT_GAP = 0x7FC00000L, DOUBLE_GAP = 0x7FF8000000000000L;

    private final Row[] rows = new Row[MOST_ROWS];
    private final Stream[] streams = new Stream[MOST_STREAMS];
    private final House[] houses = new House[MOST_HOUSES];
    private final Delta[] deltas = new Delta[MOST_DELTAS];
    private final Store store = new Store();
    private final Packer packer = new Packer();
    private final PieceReader reader = new PieceReader();
    private final int[] timesFound = new int[MISFIT + 1];
    private int rowsMade;
    private int streamsMade;
    private int housesMade;
    private int deltasMade;
    private int latestFinding;
    private long whatWasSeen;

    public PackDesk() {
    }

    // ---- rows

    public int row(int kind, int n) {
        if (!isKind(kind) || n > MOST_NUMBERS) return OUTSIDE;
        if (rowsMade >= MOST_ROWS) return FULL;
        if (n < 0) return found(SIZE);
        return newRow(kind, n);
    }

    public int lose(int r) {
        Row row = rowNumbered(r);
        if (row == null) return UNKNOWN;
        if (row.lost) return found(NULL);
        row.lost = true;
        return row.numbers.length;
    }

    public int kind(int r) {
        Row row = rowNumbered(r);
        return row == null ? UNKNOWN : row.ofKind;
    }

    public int length(int r) {
        Row row = rowNumbered(r);
        if (row == null) return UNKNOWN;
        if (row.lost) return found(NULL);
        return row.numbers.length;
    }

    public int put(int r, int i, long word) {
        Row row = rowNumbered(r);
        if (row == null) return UNKNOWN;
        if (row.lost) return found(NULL);
        if (!row.has(i)) return found(INDEX);
        row.numbers[i] = Kinds.told(row.ofKind, word);
        return 0;
    }

    public int get(int r, int i) {
        Row row = rowNumbered(r);
        if (row == null) return UNKNOWN;
        if (row.lost) return found(NULL);
        if (!row.has(i)) return found(INDEX);
        whatWasSeen = row.numbers[i];
        return 0;
    }

    public int copy(int a, int i, int b, int j, int n) {
        Row from = rowNumbered(a);
        Row to = rowNumbered(b);
        if (from == null || to == null) return UNKNOWN;
        if (from.ofKind != to.ofKind) return found(CAST);
        if (from.lost || to.lost) return found(NULL);
        if (!from.hasStretch(i, n) || !to.hasStretch(j, n)) return found(INDEX);
        System.arraycopy(from.numbers, i, to.numbers, j, n);
        return 0;
    }

    public int compare(int r, int i, int j) {
        Row row = rowNumbered(r);
        if (row == null) return UNKNOWN;
        if (row.lost) return found(NULL);
        if (!row.has(i) || !row.has(j)) return found(INDEX);
        return Kinds.compared(row.ofKind, row.numbers[i], row.numbers[j]);
    }

    public int shape(int r, int i, int way) {
        Row row = rowNumbered(r);
        if (row == null) return UNKNOWN;
        if (way < SIZED || way > TURNED) return OUTSIDE;
        if (way != SIZED && way != TURNED && !Kinds.areFloating(row.ofKind)) return STATE;
        if (row.lost) return found(NULL);
        if (!row.has(i)) return found(INDEX);
        whatWasSeen = Kinds.shaped(row.ofKind, row.numbers[i], way);
        return 0;
    }

    public int rest(int r, int i, int j) {
        Row row = rowNumbered(r);
        if (row == null) return UNKNOWN;
        if (row.lost) return found(NULL);
        if (!row.has(i) || !row.has(j)) return found(INDEX);
        if (!Kinds.leaveRest(row.ofKind, row.numbers[i], row.numbers[j])) return found(ZERO);
        whatWasSeen = Kinds.restOf(row.ofKind, row.numbers[i], row.numbers[j]);
        return 0;
    }

    public int most(int r, int what) {
        Row row = rowNumbered(r);
        if (row == null) return UNKNOWN;
        if (what < 0 || what > 2) return OUTSIDE;
        if (row.lost) return found(NULL);
        int gaps = row.gaps();
        if (what == 2) {
            whatWasSeen = gaps;
            return 0;
        }
        if (gaps == row.numbers.length) return found(ZERO);
        whatWasSeen = row.utmost(what == 0);
        return 0;
    }

    public long seen() {
        return whatWasSeen;
    }

    // ---- streams

    public int stream() {
        if (streamsMade >= MOST_STREAMS) return FULL;
        return newStream();
    }

    public int write(int s, int r, int coder) {
        Stream stream = streamNumbered(s);
        Row row = rowNumbered(r);
        if (stream == null || row == null) return UNKNOWN;
        if (!isCoder(coder)) return OUTSIDE;
        if (stream.ended) return STATE;
        if (row.lost) return found(NULL);
        packer.pack(coder, row.numbers, row.numbers.length);
        if (stream.size + FRAME + packer.size > MOST_BYTES) return FULL;
        appendPiece(stream, coder, row);
        return stream.size;
    }

    public int cost(int r, int coder) {
        Row row = rowNumbered(r);
        if (row == null) return UNKNOWN;
        if (!isCoder(coder)) return OUTSIDE;
        if (row.lost) return found(NULL);
        packer.pack(coder, row.numbers, row.numbers.length);
        return packer.size;
    }

    public int best(int r) {
        Row row = rowNumbered(r);
        if (row == null) return UNKNOWN;
        if (row.lost) return found(NULL);
        int bestCoder = PLAIN;
        int fewest = MOST_MADE + 1;
        for (int coder = PLAIN; coder <= WIDE; coder++) {
            packer.pack(coder, row.numbers, row.numbers.length);
            if (packer.size < fewest) {
                fewest = packer.size;
                bestCoder = coder;
            }
        }
        return bestCoder;
    }

    public int add(int s, int b) {
        Stream stream = streamNumbered(s);
        if (stream == null) return UNKNOWN;
        if (stream.ended) return STATE;
        if (stream.size >= MOST_BYTES) return FULL;
        stream.append(b);
        return stream.size;
    }

    public int end(int s) {
        Stream stream = streamNumbered(s);
        if (stream == null) return UNKNOWN;
        if (stream.ended) return STATE;
        stream.ended = true;
        return stream.size;
    }

    public int about(int s, int what) {
        Stream stream = streamNumbered(s);
        if (stream == null) return UNKNOWN;
        switch (what) {
            case 0: return stream.size;
            case 1: return stream.place;
            case 2: return stream.ended ? 1 : 0;
            case 3: return stream.sum(0, stream.size);
            default: return OUTSIDE;
        }
    }

    public int at(int s, int i) {
        Stream stream = streamNumbered(s);
        if (stream == null) return UNKNOWN;
        if (!stream.has(i)) return found(INDEX);
        return stream.byteAt(i);
    }

    public int harm(int s, int i, int mask) {
        Stream stream = streamNumbered(s);
        if (stream == null) return UNKNOWN;
        if (!stream.has(i)) return found(INDEX);
        stream.bytes[i] = (byte) (stream.bytes[i] ^ mask);
        return stream.byteAt(i);
    }

    public int seek(int s, int p) {
        Stream stream = streamNumbered(s);
        if (stream == null) return UNKNOWN;
        if (p < 0 || p > stream.size) return found(INDEX);
        int before = stream.place;
        stream.place = p;
        return before;
    }

    public int read(int s) {
        Stream stream = streamNumbered(s);
        if (stream == null) return UNKNOWN;
        int wrong = reader.examine(packer, stream, stream.place);
        if (wrong != FINE) return found(wrong);
        if (rowsMade >= MOST_ROWS) return FULL;
        int r = newRow(reader.ofKind, reader.howMany);
        System.arraycopy(packer.opened, 0, rows[r].numbers, 0, reader.howMany);
        stream.place = reader.behind;
        return r;
    }

    public int pieces(int s) {
        Stream stream = streamNumbered(s);
        if (stream == null) return UNKNOWN;
        int readable = 0;
        int place = 0;
        // The bound is safe: each PIECE has seven bytes at least.
        while (readable < MOST_BYTES && reader.examine(packer, stream, place) == FINE) {
            readable++;
            place = reader.behind;
        }
        return readable;
    }

    // ---- store, houses

    public int house() {
        if (housesMade >= MOST_HOUSES) return FULL;
        houses[housesMade] = new House();
        housesMade++;
        return housesMade - 1;
    }

    public int keep(int h, long path, int s) {
        House house = houseNumbered(h);
        Stream stream = streamNumbered(s);
        if (house == null || stream == null) return UNKNOWN;
        if (path < 0) return OUTSIDE;
        if (!stream.ended) return STATE;
        int entry = house.entryOf(path);
        if (entry == NONE && house.entries >= MOST_ENTRIES) return FULL;
        Body body = store.bodyLike(stream);
        if (body == null) body = store.newBody(stream);
        if (body == null) return FULL;
        body.users++;
        if (entry == NONE) {
            house.insert(path, body);
        } else {
            store.release(house.bodies[entry]);
            house.bodies[entry] = body;
        }
        return body.number;
    }

    public int find(int h, long path) {
        House house = houseNumbered(h);
        if (house == null) return UNKNOWN;
        if (path < 0) return OUTSIDE;
        int entry = house.entryOf(path);
        return entry == NONE ? NONE : house.bodies[entry].number;
    }

    public int drop(int h, long path) {
        House house = houseNumbered(h);
        if (house == null) return UNKNOWN;
        if (path < 0) return OUTSIDE;
        int entry = house.entryOf(path);
        if (entry == NONE) return NONE;
        Body body = house.bodies[entry];
        house.remove(entry);
        store.release(body);
        return body.number;
    }

    public int list(int h, int i) {
        House house = houseNumbered(h);
        if (house == null) return UNKNOWN;
        if (i < 0 || i >= house.entries) return found(INDEX);
        whatWasSeen = house.paths[i];
        return house.entries;
    }

    public int take(int h, long path) {
        House house = houseNumbered(h);
        if (house == null) return UNKNOWN;
        if (path < 0) return OUTSIDE;
        int entry = house.entryOf(path);
        if (entry == NONE) return STATE;
        if (streamsMade >= MOST_STREAMS) return FULL;
        Body body = house.bodies[entry];
        int s = newStream();
        streams[s].appendAll(body.bytes, 0, body.size);
        streams[s].ended = true;
        return s;
    }

    public int uses(int body) {
        return store.usersOf(body);
    }

    // ---- deltas

    public int delta(int a, int b) {
        Stream from = streamNumbered(a);
        Stream to = streamNumbered(b);
        if (from == null || to == null) return UNKNOWN;
        if (deltasMade >= MOST_DELTAS) return FULL;
        deltas[deltasMade] = new Delta(from, to);
        deltas[deltasMade].fill(from, to);
        deltasMade++;
        return deltasMade - 1;
    }

    public int act(int d, int i, int what) {
        Delta delta = deltaNumbered(d);
        if (delta == null) return UNKNOWN;
        if (what < 0 || what > 2) return OUTSIDE;
        if (i < -1 || i >= delta.acts) return found(INDEX);
        return i == -1 ? delta.told(what) : delta.toldOfAct(i, what);
    }

    public int apply(int d, int s) {
        Delta delta = deltaNumbered(d);
        Stream from = streamNumbered(s);
        if (delta == null || from == null) return UNKNOWN;
        if (!delta.fits(from)) return found(MISFIT);
        if (streamsMade >= MOST_STREAMS) return FULL;
        int made = newStream();
        delta.make(from, streams[made]);
        return made;
    }

    // ---- what is told

    public int finding() {
        return latestFinding;
    }

    public int findings(int f) {
        if (f < NULL || f > MISFIT) return OUTSIDE;
        return timesFound[f];
    }

    public int count(int what) {
        switch (what) {
            case 0: return rowsMade;
            case 1: return streamsMade;
            case 2: return store.atHand;
            case 3: return store.ever;
            case 4: return housesMade;
            case 5: return deltasMade;
            default: return OUTSIDE;
        }
    }

    public long digest() {
        long h = mixed(19, rowsMade);
        for (int r = 0; r < rowsMade; r++) h = mixedWithRow(h, rows[r]);
        h = mixed(h, streamsMade);
        for (int s = 0; s < streamsMade; s++) h = mixedWithStream(h, streams[s]);
        for (int i = 0; i < housesMade; i++) h = mixedWithHouse(h, houses[i]);
        return mixed(h, deltasMade);
    }

    // ---- what the calls share

    private static boolean isKind(int kind) {
        return kind >= TRUTHS && kind <= DOUBLES;
    }

    private static boolean isCoder(int coder) {
        return coder >= PLAIN && coder <= WIDE;
    }

    private int found(int f) {
        latestFinding = f;
        timesFound[f]++;
        return -10 - f;
    }

    private Row rowNumbered(int r) {
        return r >= 0 && r < rowsMade ? rows[r] : null;
    }

    private Stream streamNumbered(int s) {
        return s >= 0 && s < streamsMade ? streams[s] : null;
    }

    private House houseNumbered(int h) {
        return h >= 0 && h < housesMade ? houses[h] : null;
    }

    private Delta deltaNumbered(int d) {
        return d >= 0 && d < deltasMade ? deltas[d] : null;
    }

    private int newRow(int ofKind, int n) {
        rows[rowsMade] = new Row(ofKind, n);
        rowsMade++;
        return rowsMade - 1;
    }

    private int newStream() {
        streams[streamsMade] = new Stream();
        streamsMade++;
        return streamsMade - 1;
    }

    /** What the packer holds comes behind a STREAM that has room for it. */
    private void appendPiece(Stream stream, int coder, Row row) {
        int start = stream.size;
        stream.append(FIRST_MARK + coder);
        stream.append(row.ofKind);
        stream.append(row.numbers.length);
        stream.appendPair(packer.size);
        stream.appendAll(packer.made, 0, packer.size);
        stream.appendPair(stream.sum(start, stream.size));
    }

    private static long mixed(long h, long number) {
        return 31 * h + number;
    }

    private static long mixedWithRow(long h, Row row) {
        h = mixed(h, row.ofKind);
        if (row.lost) return mixed(h, -1);
        h = mixed(h, row.numbers.length);
        for (long whole : row.numbers) h = mixed(h, whole);
        return h;
    }

    private static long mixedWithStream(long h, Stream stream) {
        h = mixed(h, stream.size);
        h = mixed(h, stream.sum(0, stream.size));
        h = mixed(h, stream.place);
        return mixed(h, stream.ended ? 1 : 0);
    }

    private static long mixedWithHouse(long h, House house) {
        h = mixed(h, house.entries);
        for (int i = 0; i < house.entries; i++) {
            h = mixed(h, house.paths[i]);
            h = mixed(h, house.bodies[i].number);
        }
        return h;
    }

    /** A ROW; its NUMBERS are held as the WHOLES that tell them. */
    private static final class Row {
        final int ofKind;
        final long[] numbers;
        boolean lost;

        Row(int ofKind, int n) {
            this.ofKind = ofKind;
            this.numbers = new long[n];
        }

        boolean has(int i) {
            return i >= 0 && i < numbers.length;
        }

        boolean hasStretch(int i, int n) {
            // Asked without a sum, which could wrap.
            return i >= 0 && n >= 0 && i <= numbers.length && n <= numbers.length - i;
        }

        int gaps() {
            int gaps = 0;
            for (long whole : numbers) {
                if (Kinds.isGap(ofKind, whole)) gaps++;
            }
            return gaps;
        }

        /** The greatest or the least NUMBER; there is one that is no GAP. */
        long utmost(boolean greatest) {
            boolean any = false;
            long utmost = 0;
            for (long whole : numbers) {
                if (Kinds.isGap(ofKind, whole)) continue;
                boolean beyond = greatest
                        ? Kinds.rank(ofKind, whole) > Kinds.rank(ofKind, utmost)
                        : Kinds.rank(ofKind, whole) < Kinds.rank(ofKind, utmost);
                if (!any || beyond) utmost = whole;
                any = true;
            }
            return utmost;
        }
    }

    /** What is done with single NUMBERS of the KINDS, by their WHOLES. */
    private static final class Kinds {
        static boolean areFloating(int kind) {
            return kind == FLOATS || kind == DOUBLES;
        }

        /** The WHOLE of the NUMBER that a word tells. */
        static long told(int kind, long word) {
            switch (kind) {
                case TRUTHS: return word & 1;
                case BYTES: return (byte) word;
                case CHARS: return (char) word;
                case SHORTS: return (short) word;
                case INTS: return (int) word;
                case FLOATS: return Floating.orGap(kind, (int) word);
                case DOUBLES: return Floating.orGap(kind, word);
                default: return word;
            }
        }

        static boolean isGap(int kind, long whole) {
            return areFloating(kind) && Floating.isNone(kind, whole);
        }

        /** Orders the NUMBERS of a KIND, with -0.0 below 0.0. */
        static long rank(int kind, long whole) {
            // The bits of those below 0 grow as the NUMBERS fall.
            return areFloating(kind) ? whole ^ ((whole >> 63) & ALL_BUT_LONG_SIGN) : whole;
        }

        static int compared(int kind, long one, long other) {
            if (isGap(kind, one) || isGap(kind, other)) return 32;
            int order = Long.compare(rank(kind, unsignedZero(kind, one)), rank(kind, unsignedZero(kind, other)));
            if (order == 0) return 2 + 8 + 16;
            return order < 0 ? 1 + 2 + 32 : 4 + 8 + 32;
        }

        private static long unsignedZero(int kind, long whole) {
            return areFloating(kind) && whole == Floating.signBit(kind) ? 0 : whole;
        }

        static long shaped(int kind, long whole, int way) {
            if (isGap(kind, whole)) return whole;
            switch (way) {
                case SIZED: return whole < 0 ? turned(kind, whole) : whole;
                case SIGNED: return Floating.signOf(kind, whole);
                case TURNED: return turned(kind, whole);
                default: return Floating.rounded(kind, whole, way);
            }
        }

        private static long turned(int kind, long whole) {
            if (kind == TRUTHS) return 1 - whole;
            return areFloating(kind) ? whole ^ Floating.signBit(kind) : told(kind, -whole);
        }

        static boolean leaveRest(int kind, long one, long other) {
            return areFloating(kind) ? Floating.leaveRest(kind, one, other) : other != 0;
        }

        static long restOf(int kind, long one, long other) {
            if (areFloating(kind)) return Floating.restOf(kind, one, other);
            return other == 0 ? 0 : one % other;
        }
    }

    /**
     * Floats and doubles by their bits. The size of one is its bits without the sign;
     * sizes have the order of the numbers, and the next exponent's least size comes
     * behind the greatest one of an exponent.
     */
    private static final class Floating {
        /** A shift by so many bits of what is below 2 to the 53rd stays a positive long. */
        private static final int SAFE_SHIFT = 10;

        private static int fractionBits(int kind) {
            return kind == FLOATS ? 23 : 52;
        }

        private static int bias(int kind) {
            return kind == FLOATS ? 127 : 1023;
        }

        /** The WHOLE of -0.0. */
        static long signBit(int kind) {
            return kind == FLOATS ? INT_SIGN : LONG_SIGN;
        }

        private static long endless(int kind) {
            return kind == FLOATS ? ENDLESS_FLOAT : ENDLESS_DOUBLE;
        }

        private static long oneOf(int kind) {
            return (long) bias(kind) << fractionBits(kind);
        }

        private static long sizeOf(int kind, long whole) {
            return whole & (kind == FLOATS ? ALL_BUT_INT_SIGN : ALL_BUT_LONG_SIGN);
        }

        private static long withSign(int kind, long size, boolean below) {
            return below ? size ^ signBit(kind) : size;
        }

        static boolean isNone(int kind, long whole) {
            return sizeOf(kind, whole) > endless(kind);
        }

        static long orGap(int kind, long whole) {
            // Asks without isNone(), as read() calls deep enough to here.
            if (sizeOf(kind, whole) <= endless(kind)) return whole;
            return kind == FLOATS ? FLOAT_GAP : DOUBLE_GAP;
        }

        static long signOf(int kind, long whole) {
            return sizeOf(kind, whole) == 0 ? whole : withSign(kind, oneOf(kind), whole < 0);
        }

        /** The whole one below, above or nearest. */
        static long rounded(int kind, long whole, int way) {
            long size = sizeOf(kind, whole);
            boolean below = whole < 0;
            int exponent = (int) (size >> fractionBits(kind)) - bias(kind);
            if (size == 0 || exponent >= fractionBits(kind)) return whole;
            if (exponent < 0) {
                boolean up = goesUp(way, below, Long.compare(size, halfOf(kind)), false);
                return withSign(kind, up ? oneOf(kind) : 0, below);
            }
            int partBits = fractionBits(kind) - exponent;
            long unit = 1L << partBits;
            long part = size & (unit - 1);
            if (part == 0) return whole;
            // Of 1.x the bit above the part is the exponent's lowest, which the bias makes odd too.
            boolean odd = (size & unit) != 0;
            boolean up = goesUp(way, below, Long.compare(part, unit >> 1), odd);
            return withSign(kind, size - part + (up ? unit : 0), below);
        }

        private static long halfOf(int kind) {
            return (long) (bias(kind) - 1) << fractionBits(kind);
        }

        /** Whether a size that is not whole grows; overHalf is below, at or above 0 as its part is to a half. */
        private static boolean goesUp(int way, boolean below, int overHalf, boolean odd) {
            if (way == FLOORED) return below;
            if (way == RAISED) return !below;
            return overHalf > 0 || overHalf == 0 && odd;
        }

        static boolean leaveRest(int kind, long one, long other) {
            return !isNone(kind, other) && sizeOf(kind, other) != 0 && sizeOf(kind, one) < endless(kind);
        }

        /** The remainder of a long division of the two fractions, from the exponent of one down to the other's. */
        static long restOf(int kind, long one, long other) {
            long size = sizeOf(kind, one);
            long divisorSize = sizeOf(kind, other);
            if (size < divisorSize) return one;
            long divisor = scaledFraction(kind, divisorSize);
            if (divisor == 0) return one;
            int scale = scaleOf(kind, divisorSize);
            long left = scaledFraction(kind, size) % divisor;
            int steps = scaleOf(kind, size) - scale;
            while (steps > 0) {
                int shift = Math.min(steps, SAFE_SHIFT);
                left = (left << shift) % divisor;
                steps -= shift;
            }
            return withSign(kind, sizeFrom(kind, left, scale), one < 0);
        }

        private static long scaledFraction(int kind, long size) {
            long leading = 1L << fractionBits(kind);
            long fraction = size & (leading - 1);
            return size < leading ? fraction : fraction + leading;
        }

        /** The exponent's field, as the least numbers, which have 0 there, share the scale of those with 1. */
        private static int scaleOf(int kind, long size) {
            return Math.max(1, (int) (size >> fractionBits(kind)));
        }

        private static long sizeFrom(int kind, long fraction, int scale) {
            if (fraction == 0) return 0;
            long leading = 1L << fractionBits(kind);
            int field = scale;
            for (int k = 0; k < fractionBits(kind) && fraction < leading && field > 1; k++) {
                fraction <<= 1;
                field--;
            }
            // A leading bit makes the field one more; the least numbers have none.
            return ((long) (field - 1) << fractionBits(kind)) + fraction;
        }
    }

    /** The CODERS: what they make of NUMBERS, and the NUMBERS that they made bytes of. */
    private static final class Packer {
        final byte[] made = new byte[MOST_MADE];
        int size;
        final long[] opened = new long[MOST_NUMBERS];
        private final long[] worked = new long[MOST_NUMBERS];
        private Stream source;
        private int from;
        private int until;
        private boolean astray;

        /** Leaves what a CODER makes of the first n numbers in made, size. */
        void pack(int coder, long[] numbers, int n) {
            size = 0;
            System.arraycopy(numbers, 0, worked, 0, n);
            if (coder == STEPS || coder == TWICE || coder == WIDE) makeSteps(n);
            if (coder == TWICE) makeSteps(n);
            switch (coder) {
                case RUNS:
                    packRuns(n);
                    break;
                case WIDE:
                    packWide(n);
                    break;
                default:
                    for (int i = 0; i < n; i++) packPlain(worked[i]);
            }
        }

        private void makeSteps(int n) {
            for (int i = n - 1; i > 0; i--) worked[i] -= worked[i - 1];
        }

        private void packByte(long b) {
            if (size >= made.length) return;
            made[size] = (byte) b;
            size++;
        }

        private void packPlain(long v) {
            long left = (v << 1) ^ (v >> 63);
            for (int k = 0; k < 9 && (left >>> 7) != 0; k++) {
                packByte((left & 127) | 128);
                left >>>= 7;
            }
            packByte(left);
        }

        private void packRuns(int n) {
            int start = 0;
            for (int i = 1; i <= n; i++) {
                if (i < n && worked[i] == worked[start]) continue;
                packPlain(worked[start]);
                packPlain(i - start - 1);
                start = i;
            }
        }

        private void packWide(int n) {
            int width = 1;
            for (int i = 0; i < n; i++) width = Math.max(width, widthOf(worked[i]));
            packByte(width);
            for (int i = 0; i < n; i++) {
                for (int k = 0; k < width; k++) packByte(worked[i] >> (8 * k));
            }
        }

        private static int widthOf(long v) {
            int width = 1;
            for (int w = 1; w < 8; w++) {
                long sign = v >> (8 * w - 1);
                if (sign != 0 && sign != -1) width = w + 1;
            }
            return width;
        }

        /** Whether a CODER made the bytes of a stretch, of n NUMBERS of a KIND: then opened has these. */
        boolean unpack(int coder, int kind, int n, Stream stream, int start, int stop) {
            source = stream;
            from = start;
            until = stop;
            astray = false;
            switch (coder) {
                case RUNS:
                    openRuns(n);
                    break;
                case WIDE:
                    openWide(n);
                    break;
                default:
                    for (int i = 0; i < n; i++) opened[i] = openPlain();
            }
            if (coder == STEPS || coder == TWICE || coder == WIDE) undoSteps(n);
            if (coder == TWICE) undoSteps(n);
            if (astray || !areTold(kind, n)) return false;
            // A CODER makes just one row of bytes of the NUMBERS: any other was not made by it.
            pack(coder, opened, n);
            return source.hasAt(start, stop, made, size);
        }

        private void undoSteps(int n) {
            for (int i = 1; i < n; i++) opened[i] += opened[i - 1];
        }

        private boolean areTold(int kind, int n) {
            for (int i = 0; i < n; i++) {
                if (Kinds.told(kind, opened[i]) != opened[i]) return false;
            }
            return true;
        }

        private int openByte() {
            if (from >= until) {
                astray = true;
                return 0;
            }
            from++;
            return source.byteAt(from - 1);
        }

        private long openPlain() {
            long left = 0;
            for (int k = 0; k < 10; k++) {
                int b = openByte();
                left |= (long) (b & 127) << (7 * k);
                if (b < 128) return (left >>> 1) ^ -(left & 1);
            }
            astray = true;
            return 0;
        }

        private void openRuns(int n) {
            int i = 0;
            while (i < n && !astray) {
                long v = openPlain();
                long more = openPlain();
                if (more < 0 || more >= n - i) {
                    astray = true;
                    return;
                }
                for (int stop = i + (int) more; i <= stop; i++) opened[i] = v;
            }
        }

        private void openWide(int n) {
            int width = openByte();
            if (width < 1 || width > 8) {
                astray = true;
                return;
            }
            for (int i = 0; i < n; i++) {
                long v = 0;
                for (int k = 0; k < width; k++) v |= (long) openByte() << (8 * k);
                int spare = 64 - 8 * width;
                opened[i] = v << spare >> spare;
            }
        }
    }

    /** A STREAM. */
    private static final class Stream {
        final byte[] bytes = new byte[MOST_BYTES];
        int size;
        int place;
        boolean ended;

        boolean has(int i) {
            return i >= 0 && i < size;
        }

        int byteAt(int i) {
            return has(i) ? bytes[i] & 255 : 0;
        }

        void append(int b) {
            if (size >= bytes.length) return;
            bytes[size] = (byte) b;
            size++;
        }

        void appendPair(int pair) {
            append(pair);
            append(pair >> 8);
        }

        void appendAll(byte[] others, int start, int stop) {
            for (int i = Math.max(0, start); i < stop && i < others.length; i++) append(others[i]);
        }

        int pairAt(int i) {
            return byteAt(i) + (byteAt(i + 1) << 8);
        }

        int sum(int start, int stop) {
            int sum = 0;
            for (int i = Math.max(0, start); i < stop && i < bytes.length; i++) sum = (31 * sum + (bytes[i] & 255)) & 65535;
            return sum;
        }

        /** Whether the bytes from start to stop are the first ones of others, n of them. */
        boolean hasAt(int start, int stop, byte[] others, int n) {
            if (stop - start != n || start < 0 || stop > size || n > others.length) return false;
            for (int i = 0; i < n; i++) {
                if (bytes[start + i] != others[i]) return false;
            }
            return true;
        }
    }

    /** Looks at the PIECES of STREAMS, and tells what it saw in the latest one. */
    private static final class PieceReader {
        int ofKind;
        int howMany;
        int behind;

        /** FINE, with the NUMBERS in the packer, or the FINDING that the PIECE at a place has. */
        int examine(Packer packer, Stream stream, int place) {
            int left = stream.size - place;
            if (left == 0) return ENDS;
            if (left < FRAME) return SHORT;
            int made = stream.pairAt(place + 3);
            if (left < FRAME + made) return SHORT;
            int coder = stream.byteAt(place) - FIRST_MARK;
            ofKind = stream.byteAt(place + 1);
            howMany = stream.byteAt(place + 2);
            if (!isCoder(coder) || !isKind(ofKind) || howMany > MOST_NUMBERS) return HARMED;
            int start = place + HEAD;
            int stop = start + made;
            if (stream.sum(place, stop) != stream.pairAt(stop)) return HARMED;
            if (!packer.unpack(coder, ofKind, howMany, stream, start, stop)) return HARMED;
            behind = place + FRAME + made;
            return FINE;
        }
    }

    /** A BODY, or room for one while it has no users. */
    private static final class Body {
        final byte[] bytes = new byte[MOST_BYTES];
        int size;
        int number;
        int users;
    }

    /** THE STORE: it gives the room of BODIES that went to new ones. */
    private static final class Store {
        private final Body[] bodies = new Body[MOST_BODIES];
        int atHand;
        int ever;

        /** The BODY with the bytes of a STREAM, or null. */
        Body bodyLike(Stream stream) {
            for (Body body : bodies) {
                if (body != null && body.users > 0 && stream.hasAt(0, stream.size, body.bytes, body.size)) return body;
            }
            return null;
        }

        /** A BODY that is still without users, or null if there is no room. */
        Body newBody(Stream stream) {
            for (int i = 0; i < bodies.length; i++) {
                if (bodies[i] == null) bodies[i] = new Body();
                if (bodies[i].users > 0) continue;
                Body body = bodies[i];
                System.arraycopy(stream.bytes, 0, body.bytes, 0, stream.size);
                body.size = stream.size;
                body.number = ever;
                ever++;
                atHand++;
                return body;
            }
            return null;
        }

        void release(Body body) {
            body.users--;
            if (body.users == 0) atHand--;
        }

        int usersOf(int number) {
            for (Body body : bodies) {
                if (body != null && body.users > 0 && body.number == number) return body.users;
            }
            return 0;
        }
    }

    /** A HOUSE; its ENTRIES stand by their PATHS, the least first. */
    private static final class House {
        final long[] paths = new long[MOST_ENTRIES];
        final Body[] bodies = new Body[MOST_ENTRIES];
        int entries;

        int entryOf(long path) {
            for (int i = 0; i < entries; i++) {
                if (paths[i] == path) return i;
            }
            return NONE;
        }

        void insert(long path, Body body) {
            if (entries >= MOST_ENTRIES) return;
            int i = entries;
            for (; i > 0 && paths[i - 1] > path; i--) {
                paths[i] = paths[i - 1];
                bodies[i] = bodies[i - 1];
            }
            paths[i] = path;
            bodies[i] = body;
            entries++;
        }

        void remove(int entry) {
            for (int i = entry; i + 1 < entries; i++) {
                paths[i] = paths[i + 1];
                bodies[i] = bodies[i + 1];
            }
            entries--;
            bodies[entries] = null;
        }
    }

    /** A DELTA. It keeps nothing of the STREAM that it goes from but what tells whether another is like it. */
    private static final class Delta {
        private final int fromSize;
        private final int fromSum;
        /** Where ACTS COPY from; NONE if they ADD. */
        private final int[] places;
        private final int[] lengths;
        private final byte[] added;
        int acts;
        private int bytesAdded;
        private int bytesCopied;

        Delta(Stream from, Stream to) {
            fromSize = from.size;
            fromSum = from.sum(0, from.size);
            // Each ACT makes a byte at least.
            places = new int[to.size];
            lengths = new int[to.size];
            added = new byte[to.size];
        }

        void fill(Stream from, Stream to) {
            int p = 0;
            // The bound is safe: each turn makes a byte at least.
            for (int turn = 0; turn < to.size && p < to.size; turn++) {
                int place = longestLike(from, to, p);
                if (place == NONE) {
                    addByte(to.byteAt(p));
                    p++;
                } else {
                    int length = likeBytes(from, place, to, p);
                    newAct(place, length);
                    bytesCopied += length;
                    p += length;
                }
            }
        }

        private static int longestLike(Stream from, Stream to, int p) {
            int place = NONE;
            int longest = LEAST_COPY - 1;
            // Nothing behind a place that has all the bytes left can be longer.
            for (int i = 0; i < from.size && longest < to.size - p; i++) {
                int length = likeBytes(from, i, to, p);
                if (length > longest) {
                    longest = length;
                    place = i;
                }
            }
            return place;
        }

        private static int likeBytes(Stream from, int i, Stream to, int p) {
            int most = Math.min(from.size - i, to.size - p);
            int length = 0;
            while (length < most && from.bytes[i + length] == to.bytes[p + length]) length++;
            return length;
        }

        private void newAct(int place, int length) {
            if (acts >= places.length) return;
            places[acts] = place;
            lengths[acts] = length;
            acts++;
        }

        private void addByte(int b) {
            if (bytesAdded >= added.length) return;
            if (acts == 0 || places[acts - 1] != NONE) newAct(NONE, 0);
            added[bytesAdded] = (byte) b;
            bytesAdded++;
            lengths[acts - 1]++;
        }

        int told(int what) {
            if (what == 0) return acts;
            return what == 1 ? bytesCopied : bytesAdded;
        }

        int toldOfAct(int i, int what) {
            if (what == 0) return places[i] == NONE ? 1 : 0;
            return what == 1 ? places[i] : lengths[i];
        }

        boolean fits(Stream from) {
            return from.size == fromSize && from.sum(0, from.size) == fromSum;
        }

        void make(Stream from, Stream made) {
            int next = 0;
            for (int i = 0; i < acts; i++) {
                if (places[i] == NONE) {
                    made.appendAll(added, next, next + lengths[i]);
                    next += lengths[i];
                } else {
                    made.appendAll(from.bytes, places[i], places[i] + lengths[i]);
                }
            }
        }
    }
}
