/**
 * Files made of boxes in which tracks of samples lie: a reel of tracks is written into the file, and a
 * good file is read into the reel. All rows are made once, in the constructors: no call makes an object.
 */
public final class ReelOfBoxes {
    public static final int NONE = -1;

    private static final int MOST_TRACKS = 3;
    private static final int MOST_SAMPLES = 16;
    private static final int MOST_CHUNKS = 16;
    private static final int MOST_SAMPLE_BYTES = 8;
    private static final int MOST_FILE_BYTES = 1200;
    private static final long LARGEST_NUMBER = 2147483647L;

    // The types of boxes: their four characters as one number.
    private static final int TYPE_MOOV = 0x6d6f6f76;
    private static final int TYPE_MDAT = 0x6d646174;
    private static final int TYPE_TRAK = 0x7472616b;
    private static final int TYPE_STBL = 0x7374626c;
    private static final int TYPE_STTS = 0x73747473;
    private static final int TYPE_STSC = 0x73747363;
    private static final int TYPE_STSZ = 0x7374737a;
    private static final int TYPE_STCO = 0x7374636f;
    private static final int TYPE_CO64 = 0x636f3634;

    private static final int HEAD = 8;
    private static final int WIDE_HEAD = 16;

    private static final int FAULT_UNFIT = 1;
    private static final int FAULT_SECOND = 2;
    private static final int FAULT_MISSING = 3;
    private static final int FAULT_LENGTH = 4;
    private static final int FAULT_NUMBER = 5;
    private static final int FAULT_DISAGREE = 6;
    private static final int FAULT_OUTSIDE = 7;

    // The tables of a track, in the order in which they are looked at.
    private static final int STTS = 0;
    private static final int STSC = 1;
    private static final int STSZ = 2;
    private static final int PLACES = 3;
    private static final int TABLES = 4;

    private final Reel reel;
    private final ByteRow file;
    private final Reader reader;
    private final Writer writer;

    public ReelOfBoxes() {
        reel = new Reel();
        file = new ByteRow();
        reader = new Reader(file);
        writer = new Writer(reel, file);
    }

    public int track() {
        return reel.openTrack();
    }

    public int sample(int track, int duration, long bytes, int n) {
        Track found = reel.find(track);
        return found == null ? NONE : found.addSample(duration, bytes, n);
    }

    public int clear() {
        return reel.makeEmpty();
    }

    public int write(int per, int how) {
        if (per < 1 || per > MOST_SAMPLES || how < 0 || how > 3) {
            return 0;
        }
        return writer.writeReel(per, how);
    }

    public int read() {
        return reader.readInto(reel);
    }

    public int place() {
        return reader.faultPlace();
    }

    public int tracks() {
        return reel.trackCount();
    }

    public int samples(int track) {
        Track found = reel.find(track);
        return found == null ? NONE : found.sampleCount();
    }

    public int size(int track, int i) {
        Track found = reel.find(track);
        return found == null ? NONE : found.sizeOf(i);
    }

    public long time(int track, int i) {
        Track found = reel.find(track);
        return found == null ? NONE : found.timeOf(i);
    }

    public long bytes(int track, int i) {
        Track found = reel.find(track);
        return found == null ? 0 : found.bytesOf(i);
    }

    public int length() {
        return file.byteCount();
    }

    public int at(int i) {
        return file.byteAt(i);
    }

    public boolean poke(int i, int b) {
        return file.setByte(i, b);
    }

    public int append(long bytes, int n) {
        return file.addNumber(bytes, n);
    }

    public boolean cut(int n) {
        return file.keepFirst(n);
    }

    private static boolean isTooMuch(long number) {
        return number < 0 || number > LARGEST_NUMBER;
    }

    /** Which of a track's tables a box of this type is; NONE when it is no table. */
    private static int tableOfType(int type) {
        switch (type) {
            case TYPE_STTS:
                return STTS;
            case TYPE_STSC:
                return STSC;
            case TYPE_STSZ:
                return STSZ;
            case TYPE_STCO:
            case TYPE_CO64:
                return PLACES;
            default:
                return NONE;
        }
    }

    /** A row of samples. */
    private static final class Track {
        private final int[] durations = new int[MOST_SAMPLES];
        private final int[] sizes = new int[MOST_SAMPLES];
        private final long[] contents = new long[MOST_SAMPLES];
        private int count = 0;

        int sampleCount() {
            return count;
        }

        void dropSamples() {
            count = 0;
        }

        int addSample(int duration, long content, int n) {
            if (count >= MOST_SAMPLES || duration < 0 || n < 0 || n > MOST_SAMPLE_BYTES) {
                return NONE;
            }
            durations[count] = duration;
            sizes[count] = n;
            contents[count] = lowestBytes(content, n);
            count++;
            return count - 1;
        }

        int sizeOf(int i) {
            return i >= 0 && i < count ? sizes[i] : NONE;
        }

        int durationOf(int i) {
            return i >= 0 && i < count ? durations[i] : NONE;
        }

        long bytesOf(int i) {
            return i >= 0 && i < count ? contents[i] : 0;
        }

        long timeOf(int i) {
            if (i < 0 || i > count) {
                return NONE;
            }
            long sum = 0;
            for (int before = 0; before < i; before++) {
                sum += durations[before];
            }
            return sum;
        }

        // A shift by 64 is a shift by 0 in Java, so all eight bytes are a case of their own.
        private static long lowestBytes(long content, int n) {
            return n >= MOST_SAMPLE_BYTES ? content : content & ((1L << (8 * n)) - 1);
        }
    }

    /** Up to three tracks. */
    private static final class Reel {
        private final Track[] rows = new Track[MOST_TRACKS];
        private int count = 0;

        Reel() {
            for (int t = 0; t < MOST_TRACKS; t++) {
                rows[t] = new Track();
            }
        }

        int trackCount() {
            return count;
        }

        /** The track of this number; null when there is none. */
        Track find(int t) {
            return t >= 0 && t < count ? rows[t] : null;
        }

        int openTrack() {
            if (count >= MOST_TRACKS) {
                return NONE;
            }
            rows[count].dropSamples();
            count++;
            return count - 1;
        }

        int makeEmpty() {
            int had = count;
            count = 0;
            return had;
        }
    }

    /** The file. */
    private static final class ByteRow {
        private final byte[] cells = new byte[MOST_FILE_BYTES];
        private int count = 0;

        int byteCount() {
            return count;
        }

        int byteAt(int i) {
            return i >= 0 && i < count ? cells[i] & 255 : NONE;
        }

        boolean setByte(int i, int b) {
            if (i < 0 || i >= count) {
                return false;
            }
            cells[i] = (byte) b;
            return true;
        }

        boolean keepFirst(int n) {
            if (n < 0 || n > count) {
                return false;
            }
            count = n;
            return true;
        }

        /** Adds the lowest bytes of a number, so many as its width, the highest of them first. */
        int addNumber(long number, int width) {
            if (width < 1 || width > 8 || count + width > MOST_FILE_BYTES) {
                return NONE;
            }
            for (int i = width - 1; i >= 0; i--) {
                cells[count] = (byte) (number >>> (8 * i));
                count++;
            }
            return count;
        }

        /** The number of so many bytes at a place, its highest byte first; 0 when it is not in the file. */
        long number(int place, int width) {
            if (place < 0 || width > count - place) {
                return 0;
            }
            long number = 0;
            for (int i = 0; i < width; i++) {
                number = (number << 8) | (cells[place + i] & 255);
            }
            return number;
        }

        /** The bytes at a place, the first one the lowest; 0 when they are not in the file. */
        long lowestFirst(long place, int n) {
            if (place < 0 || place + n > count) {
                return 0;
            }
            long content = 0;
            for (int i = n - 1; i >= 0; i--) {
                content = (content << 8) | (cells[(int) place + i] & 255);
            }
            return content;
        }
    }

    /** The first fault that was told, and its place. */
    private static final class Fault {
        private int kind = 0;
        private int where = NONE;

        void forget() {
            kind = 0;
            where = NONE;
        }

        /** Answers false, so that a check can tell a fault and end in one line. */
        boolean tell(int newKind, int newWhere) {
            kind = newKind;
            where = newWhere;
            return false;
        }
    }

    /** One of the boxes stts, stsc, stsz, stco and co64: a zero, how many entries, and these. */
    private static final class Table {
        private final ByteRow file;
        private int box = NONE;
        private int type = 0;
        private int content = 0;
        private int end = 0;
        private int headWidth = 8;
        private int entryWidth = 4;

        Table(ByteRow file) {
            this.file = file;
        }

        void forget() {
            box = NONE;
        }

        boolean isFound() {
            return box != NONE;
        }

        void find(int foundBox, int foundType, int foundContent, int foundEnd) {
            box = foundBox;
            type = foundType;
            content = foundContent;
            end = foundEnd;
            // Only stsz has another number, the size for all, before how many there are.
            headWidth = type == TYPE_STSZ ? 12 : 8;
            entryWidth = widthOfEntry(type);
        }

        private static int widthOfEntry(int type) {
            switch (type) {
                case TYPE_STSC:
                    return 12;
                case TYPE_STTS:
                case TYPE_CO64:
                    return 8;
                default:
                    return 4;
            }
        }

        /** How many it tells there are: the number that ends its head. */
        long told() {
            return file.number(content + headWidth - 4, 4);
        }

        /** In stsz the size for all samples, 0 when each has its own; 0 in all others. */
        long sizeForAll() {
            return type == TYPE_STSZ ? file.number(content + 4, 4) : 0;
        }

        /** How many entries stand in it, once its length is right; never more than it has bytes. */
        int listed() {
            int room = end - content;
            return sizeForAll() != 0 ? 0 : (int) Math.min(told(), room);
        }

        /** A number of an entry; the columns of all tables have 4 bytes, but for the one of co64. */
        long entryNumber(int entry, int column) {
            int place = content + headWidth + entry * entryWidth + 4 * column;
            return file.number(place, type == TYPE_CO64 ? 8 : 4);
        }

        /** The fault of the table by itself; 0 when it has none. */
        int ownFault() {
            if (!lengthIsRight()) {
                return FAULT_LENGTH;
            }
            if (!headIsRight()) {
                return FAULT_NUMBER;
            }
            int entries = listed();
            for (int e = 0; e < entries; e++) {
                if (!entryIsRight(e)) {
                    return FAULT_NUMBER;
                }
            }
            return 0;
        }

        private boolean lengthIsRight() {
            long room = end - content;
            if (room < headWidth) {
                return false;
            }
            long due = sizeForAll() != 0 ? 0 : told() * entryWidth;
            return room == headWidth + due;
        }

        private boolean headIsRight() {
            return file.number(content, 4) == 0 && !isTooMuch(told()) && !isTooMuch(sizeForAll());
        }

        private boolean entryIsRight(int e) {
            long first = entryNumber(e, 0);
            switch (type) {
                case TYPE_STTS:
                    return isCount(first) && !isTooMuch(entryNumber(e, 1));
                case TYPE_STSC:
                    return !isTooMuch(first)
                            && (e == 0 ? first == 1 : first > entryNumber(e - 1, 0))
                            && isCount(entryNumber(e, 1))
                            && entryNumber(e, 2) == 1;
                default:
                    return !isTooMuch(first);
            }
        }

        private static boolean isCount(long number) {
            return number >= 1 && !isTooMuch(number);
        }
    }

    /** The boxes of a track in the file, and where its samples lie by what its tables tell. */
    private static final class TrackBoxes {
        private final Table[] tables = new Table[TABLES];
        private final int[] durations = new int[MOST_SAMPLES];
        private final int[] sizes = new int[MOST_SAMPLES];
        // A chunk may begin at the largest place, so what lies behind it needs a long.
        private final long[] begins = new long[MOST_SAMPLES];
        private int samples = 0;
        private int stbl = NONE;

        TrackBoxes(ByteRow file) {
            for (int i = 0; i < TABLES; i++) {
                tables[i] = new Table(file);
            }
        }

        void forget() {
            stbl = NONE;
            samples = 0;
            for (int i = 0; i < TABLES; i++) {
                tables[i].forget();
            }
        }

        boolean hasStbl() {
            return stbl != NONE;
        }

        /** False when there is one already. */
        boolean takeStbl(int box) {
            if (stbl != NONE) {
                return false;
            }
            stbl = box;
            return true;
        }

        /** The place for a table of this type; null when it is no table's. */
        Table tableFor(int type) {
            int which = tableOfType(type);
            return which == NONE ? null : tables[which];
        }

        boolean hasAllTables() {
            for (int i = 0; i < TABLES; i++) {
                if (!tables[i].isFound()) {
                    return false;
                }
            }
            return true;
        }

        /** Whether the tables agree, each being right by itself. */
        boolean tablesAgree() {
            long count = tables[STSZ].told();
            long chunks = tables[PLACES].told();
            if (count > MOST_SAMPLES || chunks > MOST_CHUNKS) {
                return false;
            }
            return samplesOfStts() == count
                    && sizesAreSmall((int) count)
                    && entriesMeetChunks((int) chunks)
                    && samplesOfChunks((int) chunks) == count;
        }

        private long samplesOfStts() {
            Table stts = tables[STTS];
            int entries = stts.listed();
            long sum = 0;
            for (int e = 0; e < entries; e++) {
                sum += stts.entryNumber(e, 0);
            }
            return sum;
        }

        private long sizeToldOf(int i) {
            long forAll = tables[STSZ].sizeForAll();
            return forAll != 0 ? forAll : tables[STSZ].entryNumber(i, 0);
        }

        private boolean sizesAreSmall(int count) {
            for (int i = 0; i < count; i++) {
                if (sizeToldOf(i) > MOST_SAMPLE_BYTES) {
                    return false;
                }
            }
            return true;
        }

        /** The first chunks rise, so the last entry's is the highest. */
        private boolean entriesMeetChunks(int chunks) {
            int entries = tables[STSC].listed();
            if (entries == 0) {
                return chunks == 0;
            }
            return tables[STSC].entryNumber(entries - 1, 0) <= chunks;
        }

        /** An entry tells of the chunks before the first one of the next entry. */
        private long samplesOfChunks(int chunks) {
            Table stsc = tables[STSC];
            int entries = stsc.listed();
            long sum = 0;
            for (int e = 0; e < entries; e++) {
                long next = e + 1 < entries ? stsc.entryNumber(e + 1, 0) : chunks + 1;
                sum += (next - stsc.entryNumber(e, 0)) * stsc.entryNumber(e, 1);
            }
            return sum;
        }

        /** Writes out what the tables tell, sample by sample; they must agree. */
        void unfold() {
            samples = (int) Math.min(tables[STSZ].told(), MOST_SAMPLES);
            for (int i = 0; i < samples; i++) {
                sizes[i] = (int) sizeToldOf(i);
            }
            unfoldDurations();
            unfoldBegins();
        }

        private void unfoldDurations() {
            Table stts = tables[STTS];
            int entries = stts.listed();
            int i = 0;
            for (int e = 0; e < entries; e++) {
                long row = stts.entryNumber(e, 0);
                for (int k = 0; k < row && i < samples; k++) {
                    durations[i] = (int) stts.entryNumber(e, 1);
                    i++;
                }
            }
        }

        private void unfoldBegins() {
            Table stsc = tables[STSC];
            int entries = stsc.listed();
            int chunks = tables[PLACES].listed();
            int e = 0;
            int i = 0;
            for (int c = 0; c < chunks; c++) {
                // Entries number the chunks from 1, and no two have the same first one.
                if (e + 1 < entries && stsc.entryNumber(e + 1, 0) == c + 1) {
                    e++;
                }
                long begin = tables[PLACES].entryNumber(c, 0);
                long row = stsc.entryNumber(e, 1);
                for (int k = 0; k < row && i < samples; k++) {
                    begins[i] = begin;
                    begin += sizes[i];
                    i++;
                }
            }
        }

        /** Whether all bytes of all samples are from a place on and before another. */
        boolean samplesLieIn(int from, int to) {
            for (int i = 0; i < samples; i++) {
                if (sizes[i] > 0 && (begins[i] < from || begins[i] + sizes[i] > to)) {
                    return false;
                }
            }
            return true;
        }
    }

    /** Goes through the boxes of the file and finds those that count: faults 1 to 3. */
    private static final class Finder {
        // The levels, by what the boxes there are in.
        private static final int IN_FILE = 0;
        private static final int IN_MOOV = 1;
        private static final int IN_TRAK = 2;
        private static final int IN_STBL = 3;
        private static final int LEVELS = 4;
        // The type that is gone into at each level but the last.
        private static final int[] GONE_INTO = {TYPE_MOOV, TYPE_TRAK, TYPE_STBL};

        private final ByteRow file;
        private final Fault fault;
        private final TrackBoxes[] rows = new TrackBoxes[MOST_TRACKS];
        private final int[] homes = new int[LEVELS];
        private final int[] ends = new int[LEVELS];
        private int level = IN_FILE;
        private boolean hasMoov = false;
        private boolean hasMdat = false;
        private int mdatContent = 0;
        private int mdatEnd = 0;
        private int count = 0;
        private TrackBoxes current;
        // The box at hand.
        private int box = 0;
        private int type = 0;
        private int content = 0;
        private int end = 0;

        Finder(ByteRow file, Fault fault) {
            this.file = file;
            this.fault = fault;
            for (int t = 0; t < MOST_TRACKS; t++) {
                rows[t] = new TrackBoxes(file);
            }
            current = rows[0];
        }

        /** False when a fault is told. */
        boolean findAll() {
            begin();
            // A step takes a box of at least 8 bytes, or ends one: they are fewer than the bytes.
            for (int steps = 0; steps <= MOST_FILE_BYTES; steps++) {
                if (box < ends[level]) {
                    if (!takeBox()) {
                        return false;
                    }
                    stepOn();
                } else if (!levelIsWhole()) {
                    return fault.tell(FAULT_MISSING, homes[level]);
                } else if (level == IN_FILE) {
                    return true;
                } else {
                    // Where a box that was gone into ends, the next one of its level begins.
                    level--;
                }
            }
            return fault.tell(FAULT_UNFIT, box);
        }

        private void begin() {
            level = IN_FILE;
            homes[IN_FILE] = 0;
            ends[IN_FILE] = file.byteCount();
            hasMoov = false;
            hasMdat = false;
            count = 0;
            box = 0;
        }

        private boolean takeBox() {
            if (!readHead(ends[level] - box)) {
                return fault.tell(FAULT_UNFIT, box);
            }
            return keepBox() || fault.tell(FAULT_SECOND, box);
        }

        /** False when the box does not fit into the room that is left for it. */
        private boolean readHead(int room) {
            if (room < HEAD) {
                return false;
            }
            long size = file.number(box, 4);
            int head = size == 1 ? WIDE_HEAD : HEAD;
            if (room < head) {
                return false;
            }
            if (head == WIDE_HEAD) {
                size = file.number(box + HEAD, 8);
            }
            if (size < head || size > room) {
                return false;
            }
            type = (int) file.number(box + 4, 4);
            content = box + head;
            end = box + (int) size;
            return true;
        }

        /** Keeps the box if it is looked for at its level; false when there are enough of its kind. */
        private boolean keepBox() {
            switch (level) {
                case IN_FILE:
                    return keepInFile();
                case IN_MOOV:
                    return type != TYPE_TRAK || openTrak();
                case IN_TRAK:
                    return type != TYPE_STBL || current.takeStbl(box);
                default:
                    return keepTable();
            }
        }

        private boolean keepInFile() {
            boolean isFirst = true;
            if (type == TYPE_MOOV) {
                isFirst = !hasMoov;
                hasMoov = true;
            }
            if (type == TYPE_MDAT) {
                isFirst = !hasMdat;
                hasMdat = true;
                mdatContent = content;
                mdatEnd = end;
            }
            return isFirst;
        }

        private boolean keepTable() {
            Table table = current.tableFor(type);
            if (table == null) {
                return true;
            }
            if (table.isFound()) {
                return false;
            }
            table.find(box, type, content, end);
            return true;
        }

        private boolean openTrak() {
            if (count >= MOST_TRACKS) {
                return false;
            }
            current = rows[count];
            current.forget();
            count++;
            return true;
        }

        /** Goes into the box at hand, or past it. */
        private void stepOn() {
            if (level < IN_STBL && type == GONE_INTO[level]) {
                level++;
                homes[level] = box;
                ends[level] = end;
                box = content;
            } else {
                box = end;
            }
        }

        private boolean levelIsWhole() {
            switch (level) {
                case IN_FILE:
                    return hasMoov && hasMdat;
                case IN_TRAK:
                    return current.hasStbl();
                case IN_STBL:
                    return current.hasAllTables();
                default:
                    return true;
            }
        }
    }

    /** Tells the first fault of the file, or reads its tracks. */
    private static final class Reader {
        private final ByteRow file;
        private final Fault fault;
        private final Finder finder;

        Reader(ByteRow file) {
            this.file = file;
            fault = new Fault();
            finder = new Finder(file, fault);
        }

        int faultPlace() {
            return fault.where;
        }

        /** Answers the fault; the reel stays as it is if there is one. */
        int readInto(Reel reel) {
            fault.forget();
            if (finder.findAll() && tablesAreRight() && tablesAgree() && samplesAreInside()) {
                fillReel(reel);
            }
            return fault.kind;
        }

        private boolean tablesAreRight() {
            for (int t = 0; t < finder.count; t++) {
                for (int i = 0; i < TABLES; i++) {
                    Table table = finder.rows[t].tables[i];
                    int kind = table.ownFault();
                    if (kind != 0) {
                        return fault.tell(kind, table.box);
                    }
                }
            }
            return true;
        }

        private boolean tablesAgree() {
            for (int t = 0; t < finder.count; t++) {
                TrackBoxes boxes = finder.rows[t];
                if (!boxes.tablesAgree()) {
                    return fault.tell(FAULT_DISAGREE, boxes.stbl);
                }
            }
            return true;
        }

        private boolean samplesAreInside() {
            for (int t = 0; t < finder.count; t++) {
                TrackBoxes boxes = finder.rows[t];
                boxes.unfold();
                if (!boxes.samplesLieIn(finder.mdatContent, finder.mdatEnd)) {
                    return fault.tell(FAULT_OUTSIDE, boxes.tables[PLACES].box);
                }
            }
            return true;
        }

        private void fillReel(Reel reel) {
            reel.makeEmpty();
            for (int t = 0; t < finder.count; t++) {
                Track track = reel.find(reel.openTrack());
                if (track != null) {
                    fillTrack(track, finder.rows[t]);
                }
            }
        }

        private void fillTrack(Track track, TrackBoxes boxes) {
            for (int i = 0; i < boxes.samples; i++) {
                int n = boxes.sizes[i];
                track.addSample(boxes.durations[i], file.lowestFirst(boxes.begins[i], n), n);
            }
        }
    }

    /** Lays the reel out anew: moov with all tables, then mdat with the chunks in turns. */
    private static final class Writer {
        private static final int STTS_WIDTH = 8;
        private static final int STSC_WIDTH = 12;

        private final Reel reel;
        private final ByteRow file;
        private final int[] chunkPlaces = new int[MOST_TRACKS * MOST_CHUNKS];
        private int per = 1;
        private boolean hasLongPlaces = false;
        private boolean hasWideMdat = false;

        Writer(Reel reel, ByteRow file) {
            this.reel = reel;
            this.file = file;
        }

        /** Answers how many bytes the file has then; 0 when it would have too many. */
        int writeReel(int samplesPerChunk, int how) {
            per = Math.max(1, samplesPerChunk);
            hasLongPlaces = (how & 1) != 0;
            hasWideMdat = (how & 2) != 0;
            int mdat = moovSize();
            int end = layChunks(mdat + (hasWideMdat ? WIDE_HEAD : HEAD));
            if (end > MOST_FILE_BYTES) {
                return 0;
            }
            file.keepFirst(0);
            writeMoov(mdat);
            writeMdat(end - mdat);
            return file.byteCount();
        }

        private int chunkCount(Track track) {
            return (track.sampleCount() + per - 1) / per;
        }

        /** The number of the sample behind the last one of a chunk. */
        private int chunkEnd(Track track, int chunk) {
            return Math.min(track.sampleCount(), (chunk + 1) * per);
        }

        private boolean beginsRow(Track track, int i) {
            return i == 0 || track.durationOf(i) != track.durationOf(i - 1);
        }

        /** How many samples in a row, from one on, have its duration. */
        private int rowFrom(Track track, int i) {
            int count = track.sampleCount();
            int end = i + 1;
            while (end < count && !beginsRow(track, end)) {
                end++;
            }
            return end - i;
        }

        private int sttsEntries(Track track) {
            int count = track.sampleCount();
            int entries = 0;
            for (int i = 0; i < count; i++) {
                if (beginsRow(track, i)) {
                    entries++;
                }
            }
            return entries;
        }

        private int stscEntries(Track track) {
            int count = track.sampleCount();
            if (count <= per) {
                return count == 0 ? 0 : 1;
            }
            return count % per == 0 ? 1 : 2;
        }

        private int placeWidth() {
            return hasLongPlaces ? 8 : 4;
        }

        private static int tableSize(int entries, int width) {
            return HEAD + 8 + entries * width;
        }

        /** As of another table, and the size for all besides. */
        private static int stszSize(int entries) {
            return tableSize(entries, 4) + 4;
        }

        private int stblSize(Track track) {
            return HEAD
                    + tableSize(sttsEntries(track), STTS_WIDTH)
                    + tableSize(stscEntries(track), STSC_WIDTH)
                    + stszSize(track.sampleCount())
                    + tableSize(chunkCount(track), placeWidth());
        }

        private int moovSize() {
            int sum = HEAD;
            for (int t = 0; t < MOST_TRACKS; t++) {
                Track track = reel.find(t);
                if (track != null) {
                    sum += HEAD + stblSize(track);
                }
            }
            return sum;
        }

        /** Gives each chunk its place, from the first one's on, and answers where the last one ends. */
        private int layChunks(int first) {
            int place = first;
            for (int chunk = 0; chunk < MOST_CHUNKS; chunk++) {
                for (int t = 0; t < MOST_TRACKS; t++) {
                    Track track = reel.find(t);
                    if (track != null) {
                        chunkPlaces[t * MOST_CHUNKS + chunk] = place;
                        place += chunkBytes(track, chunk);
                    }
                }
            }
            return place;
        }

        private int chunkBytes(Track track, int chunk) {
            int end = chunkEnd(track, chunk);
            int sum = 0;
            for (int i = chunk * per; i < end; i++) {
                sum += track.sizeOf(i);
            }
            return sum;
        }

        private void put(long number) {
            file.addNumber(number, 4);
        }

        private void putHead(int size, int type) {
            put(size);
            put(type);
        }

        private void putTableHead(int type, int entries, int width) {
            putHead(tableSize(entries, width), type);
            put(0);
            put(entries);
        }

        private void writeMoov(int size) {
            putHead(size, TYPE_MOOV);
            for (int t = 0; t < MOST_TRACKS; t++) {
                Track track = reel.find(t);
                if (track != null) {
                    putHead(HEAD + stblSize(track), TYPE_TRAK);
                    putHead(stblSize(track), TYPE_STBL);
                    writeStts(track);
                    writeStsc(track);
                    writeStsz(track);
                    writePlaces(track, t);
                }
            }
        }

        private void writeStts(Track track) {
            putTableHead(TYPE_STTS, sttsEntries(track), STTS_WIDTH);
            int count = track.sampleCount();
            for (int i = 0; i < count; i++) {
                if (beginsRow(track, i)) {
                    put(rowFrom(track, i));
                    put(track.durationOf(i));
                }
            }
        }

        private void writeStsc(Track track) {
            int entries = stscEntries(track);
            putTableHead(TYPE_STSC, entries, STSC_WIDTH);
            if (entries > 0) {
                putStscEntry(track, 0);
            }
            if (entries > 1) {
                putStscEntry(track, chunkCount(track) - 1);
            }
        }

        private void putStscEntry(Track track, int chunk) {
            put(chunk + 1);
            put(chunkEnd(track, chunk) - chunk * per);
            put(1);
        }

        private void writeStsz(Track track) {
            int count = track.sampleCount();
            putHead(stszSize(count), TYPE_STSZ);
            put(0);
            put(0);
            put(count);
            for (int i = 0; i < count; i++) {
                put(track.sizeOf(i));
            }
        }

        private void writePlaces(Track track, int t) {
            int chunks = Math.min(chunkCount(track), MOST_CHUNKS);
            putTableHead(hasLongPlaces ? TYPE_CO64 : TYPE_STCO, chunks, placeWidth());
            for (int chunk = 0; chunk < chunks; chunk++) {
                file.addNumber(chunkPlaces[t * MOST_CHUNKS + chunk], placeWidth());
            }
        }

        private void writeMdat(int size) {
            putHead(hasWideMdat ? 1 : size, TYPE_MDAT);
            if (hasWideMdat) {
                file.addNumber(size, 8);
            }
            for (int chunk = 0; chunk < MOST_CHUNKS; chunk++) {
                for (int t = 0; t < MOST_TRACKS; t++) {
                    Track track = reel.find(t);
                    if (track != null) {
                        writeChunk(track, chunk);
                    }
                }
            }
        }

        private void writeChunk(Track track, int chunk) {
            int end = chunkEnd(track, chunk);
            for (int i = chunk * per; i < end; i++) {
                int n = track.sizeOf(i);
                for (int b = 0; b < n; b++) {
                    file.addNumber(track.bytesOf(i) >>> (8 * b), 1);
                }
            }
        }
    }
}
