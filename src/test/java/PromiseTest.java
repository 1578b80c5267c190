import java.nio.charset.StandardCharsets;
import java.util.Arrays;

/** Each promise of the document: ordinary inputs, the edges it names, wrong inputs. */
public final class PromiseTest extends BoxTest {
    public static void main(String[] args) {
        newObject();
        track();
        sample();
        clear();
        writeOfSmallReels();
        writeBytes();
        writeChunksInTurns();
        writeEntries();
        writeRefusals();
        writeLimit();
        readGood();
        readKeepsReelOnFault();
        boxesThatDoNotFit();
        boxesThatAreNotGoneInto();
        secondBoxes();
        missingBoxes();
        orderOfBoxFaults();
        tablesOfWrongLength();
        tablesWithWrongNumbers();
        orderOfTableFaults();
        tablesThatDisagree();
        samplesOutside();
        orderOfTrackFaults();
        place();
        asking();
        bytesOfTheFile();
        end();
    }

    // ---- promises 1 to 4 ----

    private static void newObject() {
        ReelOfBoxes x = new ReelOfBoxes();
        due("NONE", NONE, -1);
        due("new: tracks()", x.tracks(), 0);
        due("new: length()", x.length(), 0);
        due("new: place()", x.place(), NONE);
        due("new: samples(0)", x.samples(0), NONE);
        due("new: at(0)", x.at(0), NONE);
        due("new: clear()", x.clear(), 0);
        due("new: read()", x.read(), 3);
        due("new: place() after read()", x.place(), 0);
    }

    private static void track() {
        ReelOfBoxes x = new ReelOfBoxes();
        for (int t = 0; t < 3; t++) {
            due("track()", x.track(), t);
            due("a new track's samples", x.samples(t), 0);
        }
        due("fourth track()", x.track(), NONE);
        due("tracks() after a fourth", x.tracks(), 3);
    }

    private static void sample() {
        ReelOfBoxes x = new ReelOfBoxes();
        due("sample without a track", x.sample(0, 1, 1, 1), NONE);
        x.track();
        x.track();
        for (int n = 0; n <= 8; n++) {
            due("sample of " + n, x.sample(0, n, 0x8877665544332211L, n), n);
            due("its size", x.size(0, n), n);
            long want = n == 8 ? 0x8877665544332211L : 0x8877665544332211L & ((1L << (8 * n)) - 1);
            due("its bytes", x.bytes(0, n), want);
        }
        due("sample, duration 0", x.sample(1, 0, -1, 1), 0);
        due("sample, largest duration", x.sample(1, Integer.MAX_VALUE, -1, 8), 1);
        due("sample, duration -1", x.sample(1, -1, 1, 1), NONE);
        due("sample, lowest duration", x.sample(1, Integer.MIN_VALUE, 1, 1), NONE);
        due("sample, n -1", x.sample(1, 1, 1, -1), NONE);
        due("sample, n 9", x.sample(1, 1, 1, 9), NONE);
        due("sample, track -1", x.sample(-1, 1, 1, 1), NONE);
        due("sample, track 2", x.sample(2, 1, 1, 1), NONE);
        due("sample, track lowest", x.sample(Integer.MIN_VALUE, 1, 1, 1), NONE);
        due("sample, track largest", x.sample(Integer.MAX_VALUE, 1, 1, 1), NONE);
        due("samples(1) after refusals", x.samples(1), 2);
        for (int i = 2; i < 16; i++) {
            due("sample " + i, x.sample(1, 1, i, 1), i);
        }
        due("sample 16", x.sample(1, 1, 1, 1), NONE);
        due("samples(1) when full", x.samples(1), 16);
        due("samples(0) beside it", x.samples(0), 9);
    }

    private static void clear() {
        ReelOfBoxes x = smallReel();
        x.track();
        int length = x.write(1, 0);
        due("clear()", x.clear(), 2);
        due("tracks() after clear", x.tracks(), 0);
        due("samples(0) after clear", x.samples(0), NONE);
        due("bytes(0, 0) after clear", x.bytes(0, 0), 0);
        due("the file after clear", x.length(), length);
        due("clear() again", x.clear(), 0);
        due("track() after clear", x.track(), 0);
        due("samples(0) of the new track", x.samples(0), 0);
        due("size(0, 0) of the new track", x.size(0, 0), NONE);
        due("time(0, 0) of the new track", x.time(0, 0), 0);
    }

    // ---- promise 5 ----

    private static void writeOfSmallReels() {
        ReelOfBoxes x = new ReelOfBoxes();
        due("write of no tracks", x.write(1, 0), 16);
        dueFile("write of no tracks", x, join(EMPTY_MOOV, EMPTY_MDAT));
        due("write of no tracks, wide", x.write(16, 2), 24);
        dueFile("write of no tracks, wide", x, join(EMPTY_MOOV, wide("mdat")));
        x.track();
        byte[] one = join(box("moov", EMPTY_TRAK), EMPTY_MDAT);
        due("write of an empty track", x.write(3, 0), one.length);
        dueFile("write of an empty track", x, one);
        byte[] stbl = box("stbl", EMPTY_STTS, EMPTY_STSC, EMPTY_STSZ, EMPTY_CO64);
        byte[] other = join(box("moov", box("trak", stbl)), EMPTY_MDAT);
        due("write of an empty track, co64", x.write(3, 1), other.length);
        dueFile("write of an empty track, co64", x, other);
        due("reading an empty track", x.read(), 0);
        due("its tracks()", x.tracks(), 1);
        due("its samples(0)", x.samples(0), 0);
    }

    private static void writeBytes() {
        byte[] stts = box("stts", n4(0, 2, 1, 5, 1, 6));
        byte[] stsc = box("stsc", n4(0, 1, 1, 2, 1));
        byte[] stsz = box("stsz", n4(0, 0, 2, 2, 1));
        int moov = 24 + stts.length + stsc.length + stsz.length;
        byte[][] places = {
            box("stco", n4(0, 1, moov + 20 + 8)), box("co64", n4(0, 1), n8(moov + 24 + 8)),
            box("stco", n4(0, 1, moov + 20 + 16)), box("co64", n4(0, 1), n8(moov + 24 + 16)),
        };
        for (int how = 0; how < 4; how++) {
            ReelOfBoxes x = smallReel();
            x.append(77, 8);
            byte[] stbl = box("stbl", stts, stsc, stsz, places[how]);
            byte[] content = raw(2, 1, 3);
            byte[] mdat = how < 2 ? box("mdat", content) : wide("mdat", content);
            byte[] want = join(box("moov", box("trak", stbl)), mdat);
            due("write(2, " + how + ")", x.write(2, how), want.length);
            dueFile("write(2, " + how + ")", x, want);
            dueSmallReel("after write", x);
            due("read() after write", x.read(), 0);
            dueSmallReel("after write and read", x);
        }
    }

    private static void writeChunksInTurns() {
        ReelOfBoxes x = new ReelOfBoxes();
        x.track();
        x.track();
        x.track();
        for (int i = 0; i < 5; i++) {
            x.sample(0, 4, 0x10 + i, 1);
        }
        x.sample(1, 4, 0x20, 1);
        for (int i = 0; i < 3; i++) {
            x.sample(2, 4, 0x3000 + 0x0101 * i, 2);
        }
        int length = x.write(2, 0);
        int[] want = {
            0x10, 0x11, 0x20, 0x00, 0x30, 0x01, 0x31, 0x12, 0x13, 0x02, 0x32, 0x14,
        };
        int first = length - want.length;
        for (int i = 0; i < want.length; i++) {
            due("mdat byte " + i, x.at(first + i), want[i]);
        }
        // stco of track 0 is behind moov, trak, stbl, stts (1 entry), stsc (2), stsz (5).
        int stco = 24 + 24 + 40 + 40;
        due("type of stco", x.at(stco + 4) == 's' && x.at(stco + 6) == 'c' && x.at(stco + 7) == 'o', true);
        due("chunks of track 0", x.at(stco + 15), 3);
        due("place of its chunk 0", x.at(stco + 18) * 256 + x.at(stco + 19), first);
        due("place of its chunk 1", x.at(stco + 22) * 256 + x.at(stco + 23), first + 7);
        due("place of its chunk 2", x.at(stco + 26) * 256 + x.at(stco + 27), first + 11);
        due("read()", x.read(), 0);
        due("bytes(0, 4)", x.bytes(0, 4), 0x14);
        due("bytes(1, 0)", x.bytes(1, 0), 0x20);
        due("bytes(2, 2)", x.bytes(2, 2), 0x3202);
    }

    /** The entries of stts and stsc for a track with these durations, no sample having bytes. */
    private static void dueEntries(int per, int[] durations, long[] stts, long[] stsc) {
        ReelOfBoxes x = new ReelOfBoxes();
        x.track();
        for (int duration : durations) {
            x.sample(0, duration, 0, 0);
        }
        int count = durations.length;
        int chunks = (count + per - 1) / per;
        byte[] sttsBox = box("stts", n4(0, stts.length / 2), n4(stts));
        byte[] stscBox = box("stsc", n4(0, stsc.length / 3), n4(stsc));
        byte[] stszBox = box("stsz", n4(0, 0, count), n4(new long[count]));
        int end = 24 + sttsBox.length + stscBox.length + stszBox.length + 16 + 4 * chunks + 8;
        long[] places = new long[chunks];
        Arrays.fill(places, end);
        byte[] stcoBox = box("stco", n4(0, chunks), n4(places));
        byte[] stbl = box("stbl", sttsBox, stscBox, stszBox, stcoBox);
        byte[] want = join(box("moov", box("trak", stbl)), EMPTY_MDAT);
        String what = "entries of " + Arrays.toString(durations) + " per " + per;
        due(what, x.write(per, 0), want.length);
        dueFile(what, x, want);
        due(what + ": read()", x.read(), 0);
        due(what + ": samples(0)", x.samples(0), count);
    }

    private static void writeEntries() {
        long[] none = {};
        dueEntries(1, new int[] {}, none, none);
        dueEntries(16, new int[] {7}, new long[] {1, 7}, new long[] {1, 1, 1});
        dueEntries(1, new int[] {7}, new long[] {1, 7}, new long[] {1, 1, 1});
        dueEntries(1, new int[] {7, 7, 8}, new long[] {2, 7, 1, 8}, new long[] {1, 1, 1});
        dueEntries(2, new int[] {7, 8, 7}, new long[] {1, 7, 1, 8, 1, 7}, new long[] {1, 2, 1, 2, 1, 1});
        dueEntries(2, new int[] {0, 0, 0, 0}, new long[] {4, 0}, new long[] {1, 2, 1});
        dueEntries(3, new int[] {1, 1, 1, 1, 1, 1, 1, 2}, new long[] {7, 1, 1, 2}, new long[] {1, 3, 1, 3, 2, 1});
        dueEntries(4, new int[] {1, 1, 1}, new long[] {3, 1}, new long[] {1, 3, 1});
        dueEntries(3, new int[] {1, 1, 1}, new long[] {3, 1}, new long[] {1, 3, 1});
        int most = Integer.MAX_VALUE;
        dueEntries(2, new int[] {most, most, 0}, new long[] {2, most, 1, 0}, new long[] {1, 2, 1, 2, 1, 1});
    }

    private static void writeRefusals() {
        ReelOfBoxes x = smallReel();
        x.append(0x41424344, 4);
        int[][] wrongs = {
            {0, 0}, {-1, 0}, {17, 0}, {Integer.MAX_VALUE, 0}, {Integer.MIN_VALUE, 0},
            {1, -1}, {1, 4}, {16, Integer.MAX_VALUE}, {16, Integer.MIN_VALUE}, {0, 4},
        };
        for (int[] pair : wrongs) {
            due("write(" + pair[0] + ", " + pair[1] + ")", x.write(pair[0], pair[1]), 0);
            dueFile("after a refused write", x, text("ABCD"));
        }
        dueSmallReel("after refused writes", x);
        due("write(16, 3)", x.write(16, 3) > 0, true);
    }

    /** Three tracks, of which moov has 1100 bytes with one chunk each, and data as wanted. */
    private static ReelOfBoxes largeReel(int dataBytes) {
        ReelOfBoxes x = new ReelOfBoxes();
        int left = dataBytes;
        for (int t = 0; t < 3; t++) {
            x.track();
            for (int i = 0; i < 16; i++) {
                int n = Math.min(left, 8);
                x.sample(t, i, -1, n);
                left -= n;
            }
        }
        return x;
    }

    private static void writeLimit() {
        // A trak: 16 + stts 144 + stsc 28 + stsz 84 + stco 20 = 292; moov: 8 + 876; mdat: 8 and the data.
        int fits = 1200 - 8 - 3 * 292 - 8;
        ReelOfBoxes x = largeReel(fits);
        due("write of 1200 bytes", x.write(16, 0), 1200);
        due("length() at the limit", x.length(), 1200);
        due("read() at the limit", x.read(), 0);
        due("append at the limit", x.append(1, 1), NONE);
        due("write of 1208 bytes", x.write(16, 2), 0);
        due("write of 1212 bytes", x.write(16, 1), 0);
        due("length() after refusals", x.length(), 1200);
        due("read() after refusals", x.read(), 0);
        ReelOfBoxes y = largeReel(fits + 1);
        due("write of 1201 bytes", y.write(16, 0), 0);
        due("length() after write of 1201", y.length(), 0);
        due("write of a full reel", largeReel(384).write(1, 3), 0);
    }

    // ---- promises 6 and 7: good files ----

    private static void readGood() {
        dueGood("no tracks", join(EMPTY_MOOV, EMPTY_MDAT));
        dueGood("mdat first", join(EMPTY_MDAT, EMPTY_MOOV));
        dueGood("an empty track", join(box("moov", EMPTY_TRAK), EMPTY_MDAT));
        dueGood("three tracks", join(box("moov", EMPTY_TRAK, EMPTY_TRAK, EMPTY_TRAK), EMPTY_MDAT));
        dueGood("co64", join(box("moov", box("trak", box("stbl", EMPTY_CO64, EMPTY_STSZ, EMPTY_STSC, EMPTY_STTS))),
            EMPTY_MDAT));
        dueGood("two samples", withTables(STTS, STSC, STSZ, STCO));
        dueGood("other boxes", join(box("ftyp", raw(1, 2, 3)), box("moov", box("mvhd", raw(9)),
            box("trak", box("tkhd"), EMPTY_STBL, box("tkhd")), box("mvhd")), box("free"), EMPTY_MDAT, box("free", raw(1))));

        byte[] stbl = wide("stbl", wide("stts", n4(0, 2, 1, 3, 2, 4)), box("free", raw(1)),
            wide("stsc", n4(0, 2, 1, 1, 1, 2, 2, 1)), wide("stsz", n4(0, 2, 3)), wide("co64", n4(0, 2), n8(28, 16)));
        ReelOfBoxes x = loaded(join(wide("mdat", raw(1, 2, 3, 4, 5, 6, 7, 8, 9, 10, 11, 12, 13, 14)),
            wide("moov", wide("trak", stbl))));
        due("wide boxes: read()", x.read(), 0);
        due("wide boxes: place()", x.place(), NONE);
        due("wide boxes: samples(0)", x.samples(0), 3);
        due("wide boxes: bytes(0, 0)", x.bytes(0, 0), 13 + 14 * 256);
        due("wide boxes: bytes(0, 1)", x.bytes(0, 1), 1 + 2 * 256);
        due("wide boxes: bytes(0, 2)", x.bytes(0, 2), 3 + 4 * 256);
        due("wide boxes: time(0, 1)", x.time(0, 1), 3);
        due("wide boxes: time(0, 2)", x.time(0, 2), 7);
        due("wide boxes: time(0, 3)", x.time(0, 3), 11);

        ReelOfBoxes y = loaded(withTables(box("stts", n4(0, 1, 4, 2147483647L)), box("stsc", n4(0, 3, 1, 1, 1, 2, 1, 1, 3, 2, 1)),
            box("stsz", n4(0, 0, 4, 8, 0, 1, 2)), box("stco", n4(0, 3, 16, 2147483647L, 8))));
        due("overlapping chunks: read()", y.read(), 0);
        due("overlapping chunks: bytes(0, 0)", y.bytes(0, 0), 0x100f0e0d0c0b0a09L);
        due("overlapping chunks: size(0, 1)", y.size(0, 1), 0);
        due("overlapping chunks: bytes(0, 1)", y.bytes(0, 1), 0);
        due("overlapping chunks: bytes(0, 2)", y.bytes(0, 2), 1);
        due("overlapping chunks: bytes(0, 3)", y.bytes(0, 3), 0x0302);
        due("overlapping chunks: time(0, 4)", y.time(0, 4), 4 * 2147483647L);

        ReelOfBoxes z = loaded(withTables(box("stts", n4(0, 1, 16, 0)), box("stsc", n4(0, 1, 1, 1, 1)),
            box("stsz", n4(0, 1, 16)), box("stco", n4(0, 16, 23, 22, 21, 20, 19, 18, 17, 16, 15, 14, 13, 12, 11, 10, 9, 8))));
        due("sixteen chunks: read()", z.read(), 0);
        for (int i = 0; i < 16; i++) {
            due("sixteen chunks: bytes(0, " + i + ")", z.bytes(0, i), 16 - i);
        }
        due("sixteen chunks: time(0, 16)", z.time(0, 16), 0);
    }

    private static void readKeepsReelOnFault() {
        byte[][] bad = {
            raw(0), join(EMPTY_MOOV, EMPTY_MOOV), EMPTY_MOOV,
            withTables(box("stts"), STSC, STSZ, STCO), withTables(STTS, box("stsc", n4(1, 0)), STSZ, STCO),
            withTables(STTS, STSC, EMPTY_STSZ, STCO), withTables(STTS, STSC, STSZ, box("stco", n4(0, 1, 7))),
        };
        for (int kind = 1; kind <= 7; kind++) {
            ReelOfBoxes x = smallReel();
            load(x, bad[kind - 1]);
            due("fault " + kind, x.read(), kind);
            dueSmallReel("after fault " + kind, x);
            dueFile("after fault " + kind, x, bad[kind - 1]);
        }
        ReelOfBoxes x = smallReel();
        load(x, withTables(STTS, STSC, STSZ, STCO));
        due("read() of a good file", x.read(), 0);
        due("its samples replace the reel's", x.bytes(0, 1), 0x050403);
        load(x, join(EMPTY_MOOV, EMPTY_MDAT));
        due("read() of a file without tracks", x.read(), 0);
        due("the reel is empty then", x.tracks(), 0);
    }

    // ---- faults 1 to 3 ----

    private static void boxesThatDoNotFit() {
        for (int size = 0; size < 8; size++) {
            dueFault("size " + size, sized(size, "free", raw(0, 0, 0, 0, 0, 0, 0, 0)), 1, 0);
        }
        dueFault("size of 2^31", join(EMPTY_MDAT, sized(0x80000000L, "moov")), 1, 8);
        dueFault("size of -1", join(EMPTY_MDAT, sized(-1, "moov")), 1, 8);
        dueFault("size beyond the end", join(EMPTY_MDAT, sized(9, "moov")), 1, 8);
        for (int n = 1; n < 8; n++) {
            dueFault(n + " bytes behind", join(EMPTY_MDAT, EMPTY_MOOV, new byte[n]), 1, 16);
            dueFault(n + " bytes alone", new byte[n], 1, 0);
        }
        for (int n = 0; n < 8; n++) {
            dueFault("wide head of " + (8 + n), join(EMPTY_MDAT, n4(1), text("moov"), new byte[n]), 1, 8);
        }
        long[] wideSizes = {15, 8, 1, 0, -1, 17, 1L << 31, 1L << 32, (1L << 32) + 16, Long.MIN_VALUE, Long.MAX_VALUE,
            Long.MIN_VALUE + 16};
        for (long size : wideSizes) {
            dueFault("wide size " + size, join(EMPTY_MDAT, wideSized(size, "moov")), 1, 8);
        }
        dueGood("wide size 16", join(EMPTY_MDAT, wideSized(16, "moov")));

        dueFault("unfit in moov", join(box("moov", sized(9, "free")), EMPTY_MDAT), 1, 8);
        dueFault("rest in moov", join(box("moov", box("free"), raw(0, 0, 0)), EMPTY_MDAT), 1, 16);
        dueFault("unfit in trak", join(box("moov", box("trak", sized(12, "free"))), EMPTY_MDAT), 1, 16);
        dueFault("unfit in stbl", join(box("moov", box("trak", box("stbl", sized(16, "free")))), EMPTY_MDAT), 1, 24);
        dueFault("rest in stbl", join(box("moov", box("trak", box("stbl", EMPTY_STTS, raw(0)))), EMPTY_MDAT), 1, 40);
        dueFault("wide head beyond trak", join(box("moov", box("trak", n4(1), text("free"))), n8(16)), 1, 16);
        dueFault("unfit in a wide moov", join(wide("moov", sized(7, "free")), EMPTY_MDAT), 1, 16);
        dueFault("a trak beyond moov", join(box("moov", sized(16, "trak")), EMPTY_MDAT), 1, 8);
    }

    private static void boxesThatAreNotGoneInto() {
        byte[] bad = sized(3, "free");
        String[] others = {"free", "mdia", "stbl", "trak", "MOOV", "stts"};
        for (String type : others) {
            dueGood(type + " in the file", join(EMPTY_MOOV, box(type, bad), box(type, bad), EMPTY_MDAT));
        }
        String[] inMoov = {"free", "moov", "mdat", "stbl", "stts", "co64"};
        for (String type : inMoov) {
            dueGood(type + " in moov", join(box("moov", box(type, bad), box(type, bad)), EMPTY_MDAT));
        }
        String[] inTrak = {"free", "moov", "mdat", "trak", "stts", "stco"};
        for (String type : inTrak) {
            byte[] other = box(type, bad);
            dueGood(type + " in trak", join(box("moov", box("trak", other, other, other, other, EMPTY_STBL)), EMPTY_MDAT));
        }
        String[] inStbl = {"free", "moov", "mdat", "trak", "stbl"};
        for (String type : inStbl) {
            byte[] other = box(type, bad);
            byte[] stbl = box("stbl", EMPTY_STTS, other, EMPTY_STSC, other, EMPTY_STSZ, EMPTY_STCO, other, other);
            dueGood(type + " in stbl", join(box("moov", box("trak", stbl)), EMPTY_MDAT));
        }
        dueGood("anything in mdat", join(EMPTY_MOOV, box("mdat", bad, raw(1))));
    }

    private static void secondBoxes() {
        dueFault("second moov", join(EMPTY_MOOV, EMPTY_MDAT, EMPTY_MOOV), 2, 16);
        dueFault("second mdat", join(EMPTY_MOOV, EMPTY_MDAT, EMPTY_MDAT), 2, 16);
        dueFault("second mdat before moov", join(EMPTY_MDAT, EMPTY_MDAT, EMPTY_MOOV), 2, 8);
        dueFault("second stbl", join(box("moov", box("trak", EMPTY_STBL, EMPTY_STBL)), EMPTY_MDAT), 2, 16 + EMPTY_STBL.length);
        byte[] traks = join(EMPTY_TRAK, EMPTY_TRAK, EMPTY_TRAK);
        dueFault("fourth trak", join(box("moov", traks, box("free"), EMPTY_TRAK), EMPTY_MDAT), 2, 16 + traks.length);
        byte[][] tables = {EMPTY_STTS, EMPTY_STSC, EMPTY_STSZ, EMPTY_STCO, EMPTY_CO64};
        byte[] all = join(EMPTY_STTS, EMPTY_STSC, EMPTY_STSZ, EMPTY_STCO);
        for (byte[] table : tables) {
            byte[] stbl = box("stbl", all, table);
            dueFault("second " + new String(table, 4, 4, StandardCharsets.ISO_8859_1),
                join(box("moov", box("trak", stbl)), EMPTY_MDAT), 2, 24 + all.length);
        }
        dueFault("second co64", join(box("moov", box("trak", box("stbl", EMPTY_CO64, EMPTY_CO64))), EMPTY_MDAT), 2, 40);
        dueFault("stco behind co64", join(box("moov", box("trak", box("stbl", EMPTY_CO64, EMPTY_STCO))), EMPTY_MDAT), 2, 40);
        dueFault("second moov, bad inside", join(EMPTY_MOOV, box("moov", raw(1)), EMPTY_MDAT), 2, 8);
        dueFault("second moov, unfit", join(EMPTY_MOOV, EMPTY_MDAT, sized(9, "moov")), 1, 16);
        dueFault("second stbl, bad inside", join(box("moov", box("trak", EMPTY_STBL, box("stbl"))), EMPTY_MDAT), 2,
            16 + EMPTY_STBL.length);
        dueFault("fourth trak, bad inside", join(box("moov", traks, box("trak", raw(1))), EMPTY_MDAT), 2, 8 + traks.length);
        dueFault("second stts, short", withTables(STTS, box("stts"), STSC, STSZ, STCO), 2, AT_STSC);
    }

    private static void missingBoxes() {
        dueFault("nothing", raw(), 3, 0);
        dueFault("no mdat", EMPTY_MOOV, 3, 0);
        dueFault("no moov", EMPTY_MDAT, 3, 0);
        dueFault("neither", box("free"), 3, 0);
        dueFault("no stbl", join(box("free"), box("moov", box("trak", box("free"))), EMPTY_MDAT), 3, 16);
        byte[][] tables = {EMPTY_STTS, EMPTY_STSC, EMPTY_STSZ, EMPTY_STCO};
        for (int without = 0; without < 4; without++) {
            byte[] some = raw();
            for (int i = 0; i < 4; i++) {
                some = i == without ? some : join(some, tables[i]);
            }
            dueFault("without table " + without, join(box("moov", box("trak", box("stbl", some))), EMPTY_MDAT), 3, 16);
        }
        dueFault("second trak without stbl", join(box("moov", EMPTY_TRAK, box("trak")), EMPTY_MDAT), 3,
            8 + EMPTY_TRAK.length);
        dueFault("tables of another trak do not count", join(box("moov", EMPTY_TRAK, box("trak", box("stbl", EMPTY_STTS))),
            EMPTY_MDAT), 3, 16 + EMPTY_TRAK.length);
        ReelOfBoxes x = loaded(join(box("moov", EMPTY_TRAK), EMPTY_MDAT));
        due("good before", x.read(), 0);
        load(x, join(box("moov", box("trak")), EMPTY_MDAT));
        due("boxes of an earlier read() do not count", x.read(), 3);
        due("their place", x.place(), 8);
        load(x, join(box("moov", box("trak", box("stbl"))), EMPTY_MDAT));
        due("tables of an earlier read() do not count", x.read(), 3);
        due("their place", x.place(), 16);
        load(x, EMPTY_MOOV);
        due("mdat of an earlier read() does not count", x.read(), 3);
        due("its place", x.place(), 0);
    }

    private static void orderOfBoxFaults() {
        dueFault("missing table, then unfit", join(box("moov", box("trak", box("stbl"))), raw(1)), 3, 16);
        dueFault("missing table, then second moov", join(box("moov", box("trak", box("stbl"))), EMPTY_MOOV), 3, 16);
        dueFault("second mdat, then missing", join(EMPTY_MDAT, EMPTY_MDAT, box("moov", box("trak"))), 2, 8);
        dueFault("unfit, then all else", join(raw(0, 0, 0, 7), text("free"), EMPTY_MOOV, EMPTY_MOOV), 1, 0);
        dueFault("unfit behind stbl, before missing", join(box("moov", box("trak", raw(1))), EMPTY_MDAT), 1, 16);
        dueFault("missing mdat behind an unfit one", join(EMPTY_MOOV, raw(1)), 1, 8);
        dueFault("boxes before tables", join(box("moov", box("trak", box("stbl", box("stts"), EMPTY_STSC, EMPTY_STSZ,
            EMPTY_STCO))), raw(9)), 1, 8 + 8 + 8 + 8 + 16 + 20 + 16);
        dueFault("missing mdat before tables", box("moov", box("trak", box("stbl", box("stts"), EMPTY_STSC, EMPTY_STSZ,
            EMPTY_STCO))), 3, 0);
    }

    // ---- faults 4 and 5 ----

    private static void tablesOfWrongLength() {
        for (int n = 0; n < 8; n++) {
            byte[] few = new byte[n];
            dueFault("stts of " + n, withTables(box("stts", few), STSC, STSZ, STCO), 4, AT_STTS);
            dueFault("stsc of " + n, withTables(STTS, box("stsc", few), STSZ, STCO), 4, AT_STSC);
            dueFault("stco of " + n, withTables(STTS, STSC, STSZ, box("stco", few)), 4, AT_STCO);
            dueFault("co64 of " + n, withTables(STTS, STSC, STSZ, box("co64", few)), 4, AT_STCO);
        }
        for (int n = 0; n < 12; n++) {
            dueFault("stsz of " + n, withTables(STTS, STSC, box("stsz", new byte[n]), STCO), 4, AT_STSZ);
        }
        byte[][] extras = {raw(0), n4(0), n8(0), n4(1, 1, 1)};
        for (byte[] extra : extras) {
            dueFault("long stts", withTables(box("stts", n4(0, 1, 2, 10), extra), STSC, STSZ, STCO), 4, AT_STTS);
            dueFault("long stsc", withTables(STTS, box("stsc", n4(0, 1, 1, 2, 1), extra), STSZ, STCO), 4, AT_STSC);
            dueFault("long stsz", withTables(STTS, STSC, box("stsz", n4(0, 0, 2, 2, 3), extra), STCO), 4, AT_STSZ);
            dueFault("long stsz with one size", withTables(STTS, STSC, box("stsz", n4(0, 2, 2), extra), STCO), 4, AT_STSZ);
            dueFault("long stco", withTables(STTS, STSC, STSZ, box("stco", n4(0, 1, 8), extra)), 4, AT_STCO);
            dueFault("long co64", withTables(STTS, STSC, STSZ, box("co64", n4(0, 1), n8(8), extra)), 4, AT_STCO);
        }
        dueFault("short stts", withTables(box("stts", n4(0, 2, 2, 10)), STSC, STSZ, STCO), 4, AT_STTS);
        dueFault("short stsc", withTables(STTS, box("stsc", n4(0, 1, 1, 2)), STSZ, STCO), 4, AT_STSC);
        dueFault("short stsz", withTables(STTS, STSC, box("stsz", n4(0, 0, 2, 2)), STCO), 4, AT_STSZ);
        dueFault("short stco", withTables(STTS, STSC, STSZ, box("stco", n4(0, 1))), 4, AT_STCO);
        dueFault("short co64", withTables(STTS, STSC, STSZ, box("co64", n4(0, 1, 8))), 4, AT_STCO);
        // So many entries that 4 bytes would wrap round to the right length.
        long[] counts = {0x20000001L, 0x80000001L, 0xffffffffL, 0x40000001L};
        for (long count : counts) {
            dueFault("stts, count " + count, withTables(box("stts", n4(0, count, 2, 10)), STSC, STSZ, STCO), 4, AT_STTS);
            dueFault("stsc, count " + count, withTables(STTS, box("stsc", n4(0, count, 1, 2, 1)), STSZ, STCO), 4, AT_STSC);
            dueFault("stsz, count " + count, withTables(STTS, STSC, box("stsz", n4(0, 0, count, 1)), STCO), 4, AT_STSZ);
            dueFault("stco, count " + count, withTables(STTS, STSC, STSZ, box("stco", n4(0, count, 8))), 4, AT_STCO);
            dueFault("co64, count " + count, withTables(STTS, STSC, STSZ, box("co64", n4(0, count), n8(8))), 4, AT_STCO);
        }
    }

    private static void dueNumberFault(String what, byte[] file, int place) {
        dueFault("number: " + what, file, 5, place);
    }

    private static void tablesWithWrongNumbers() {
        long[] tooMuch = {0x80000000L, 0xffffffffL};
        long[] notZero = {1, 0x01000000L, 0x80000000L, 0xffffffffL};
        for (long zero : notZero) {
            dueNumberFault("zero of stts", withTables(box("stts", n4(zero, 1, 2, 10)), STSC, STSZ, STCO), AT_STTS);
            dueNumberFault("zero of stsc", withTables(STTS, box("stsc", n4(zero, 1, 1, 2, 1)), STSZ, STCO), AT_STSC);
            dueNumberFault("zero of stsz", withTables(STTS, STSC, box("stsz", n4(zero, 0, 2, 2, 3)), STCO), AT_STSZ);
            dueNumberFault("zero of stco", withTables(STTS, STSC, STSZ, box("stco", n4(zero, 1, 8))), AT_STCO);
            dueNumberFault("zero of co64", withTables(STTS, STSC, STSZ, box("co64", n4(zero, 1), n8(8))), AT_STCO);
        }
        for (long much : tooMuch) {
            dueNumberFault("samples of stts", withTables(box("stts", n4(0, 1, much, 10)), STSC, STSZ, STCO), AT_STTS);
            dueNumberFault("duration", withTables(box("stts", n4(0, 1, 2, much)), STSC, STSZ, STCO), AT_STTS);
            dueNumberFault("second duration", withTables(box("stts", n4(0, 2, 1, 1, 1, much)), STSC, STSZ, STCO), AT_STTS);
            dueNumberFault("first chunk", withTables(STTS, box("stsc", n4(0, 1, much, 2, 1)), STSZ, STCO), AT_STSC);
            dueNumberFault("second first chunk", withTables(STTS, box("stsc", n4(0, 2, 1, 2, 1, much, 2, 1)), STSZ, STCO),
                AT_STSC);
            dueNumberFault("samples of stsc", withTables(STTS, box("stsc", n4(0, 1, 1, much, 1)), STSZ, STCO), AT_STSC);
            dueNumberFault("the 1 of stsc", withTables(STTS, box("stsc", n4(0, 1, 1, 2, much)), STSZ, STCO), AT_STSC);
            dueNumberFault("size for all", withTables(STTS, STSC, box("stsz", n4(0, much, 2)), STCO), AT_STSZ);
            dueNumberFault("size for none", withTables(STTS, STSC, box("stsz", n4(0, much, 0)), STCO), AT_STSZ);
            dueNumberFault("samples of stsz", withTables(STTS, STSC, box("stsz", n4(0, 1, much)), STCO), AT_STSZ);
            dueNumberFault("size of a sample", withTables(STTS, STSC, box("stsz", n4(0, 0, 2, 1, much)), STCO), AT_STSZ);
            dueNumberFault("place of stco", withTables(STTS, STSC, STSZ, box("stco", n4(0, 1, much))), AT_STCO);
            dueNumberFault("second place", withTables(STTS, STSC, STSZ, box("stco", n4(0, 2, 8, much))), AT_STCO);
        }
        long[] tooMuchWide = {0x80000000L, 0xffffffffL, 0x100000008L, Long.MAX_VALUE, Long.MIN_VALUE, -1};
        for (long much : tooMuchWide) {
            dueNumberFault("place of co64", withTables(STTS, STSC, STSZ, box("co64", n4(0, 1), n8(much))), AT_STCO);
        }
        dueNumberFault("0 samples of stts", withTables(box("stts", n4(0, 2, 2, 10, 0, 1)), STSC, STSZ, STCO), AT_STTS);
        dueNumberFault("0 samples of stsc", withTables(STTS, box("stsc", n4(0, 1, 1, 0, 1)), STSZ, STCO), AT_STSC);
        dueNumberFault("first chunk 0", withTables(STTS, box("stsc", n4(0, 1, 0, 2, 1)), STSZ, STCO), AT_STSC);
        dueNumberFault("first chunk 2", withTables(STTS, box("stsc", n4(0, 1, 2, 2, 1)), STSZ, STCO), AT_STSC);
        dueNumberFault("same first chunk", withTables(STTS, box("stsc", n4(0, 2, 1, 2, 1, 1, 2, 1)), STSZ, STCO), AT_STSC);
        dueNumberFault("lower first chunk", withTables(STTS, box("stsc", n4(0, 3, 1, 2, 1, 3, 2, 1, 2, 2, 1)), STSZ, STCO),
            AT_STSC);
        dueNumberFault("the 1 is 0", withTables(STTS, box("stsc", n4(0, 1, 1, 2, 0)), STSZ, STCO), AT_STSC);
        dueNumberFault("the 1 is 2", withTables(STTS, box("stsc", n4(0, 1, 1, 2, 2)), STSZ, STCO), AT_STSC);
    }

    private static void orderOfTableFaults() {
        byte[] shortStts = box("stts", n4(0, 1));
        byte[] badStts = box("stts", n4(1, 1, 2, 10));
        byte[] badStsc = box("stsc", n4(1, 1, 1, 2, 1));
        byte[] shortStsc = box("stsc", n4(0));
        byte[] badStsz = box("stsz", n4(1, 0, 2, 2, 3));
        byte[] badStco = box("stco", n4(1, 1, 8));
        dueFault("4 before 5 in one box", withTables(box("stts", n4(1, 2, 0, 0)), STSC, STSZ, STCO), 4, AT_STTS);
        dueFault("5 of stts before 4 of stsc", withTables(badStts, shortStsc, STSZ, STCO), 5, AT_STTS);
        dueFault("4 of stsc before 5 of stsz", withTables(STTS, shortStsc, badStsz, STCO), 4, AT_STSC);
        dueFault("stsz before stco", withTables(STTS, STSC, badStsz, badStco), 5, AT_STSZ);
        dueFault("stts first, wherever it stands", withTables(badStco, badStsz, badStsc, badStts), 5,
            AT_STTS + 20 + 28 + 28);
        dueFault("stsc second, wherever it stands", withTables(badStco, badStsz, badStsc, STTS), 5, AT_STTS + 20 + 28);
        byte[] first = box("trak", box("stbl", STTS, STSC, STSZ, badStco));
        byte[] second = box("trak", box("stbl", shortStts, STSC, STSZ, STCO));
        dueFault("track by track", join(DATA, box("moov", first, second)), 5, AT_STCO);
        dueFault("track by track, the other way", join(DATA, box("moov", second, first)), 4, AT_STTS);
    }

    // ---- faults 6 and 7 ----

    private static void dueDisagree(String what, byte[]... tables) {
        dueFault("agree: " + what, withTables(tables), 6, 40);
    }

    private static void tablesThatDisagree() {
        dueDisagree("stts tells of fewer", box("stts", n4(0, 1, 1, 10)), STSC, STSZ, STCO);
        dueDisagree("stts tells of more", box("stts", n4(0, 2, 2, 10, 1, 10)), STSC, STSZ, STCO);
        dueDisagree("stts tells of none", EMPTY_STTS, STSC, STSZ, STCO);
        dueDisagree("stts wraps round", box("stts", n4(0, 3, 2147483647L, 1, 2147483647L, 1, 4, 1)), STSC, STSZ, STCO);
        dueDisagree("stts alone", STTS, EMPTY_STSC, EMPTY_STSZ, EMPTY_STCO);
        dueDisagree("17 samples", box("stts", n4(0, 1, 17, 1)), box("stsc", n4(0, 1, 1, 17, 1)), box("stsz", n4(0, 1, 17)),
            STCO);
        dueDisagree("most samples", box("stts", n4(0, 1, 2147483647L, 1)), box("stsc", n4(0, 1, 1, 2147483647L, 1)),
            box("stsz", n4(0, 1, 2147483647L)), STCO);
        dueDisagree("9 bytes", STTS, STSC, box("stsz", n4(0, 0, 2, 2, 9)), STCO);
        dueDisagree("most bytes", STTS, STSC, box("stsz", n4(0, 0, 2, 2147483647L, 1)), STCO);
        dueDisagree("9 bytes for all", STTS, STSC, box("stsz", n4(0, 9, 2)), STCO);
        dueDisagree("chunks of too few", STTS, box("stsc", n4(0, 1, 1, 1, 1)), STSZ, STCO);
        dueDisagree("chunks of too many", STTS, box("stsc", n4(0, 1, 1, 3, 1)), STSZ, STCO);
        dueDisagree("too many chunks for them", STTS, STSC, STSZ, box("stco", n4(0, 2, 8, 8)));
        dueDisagree("chunks without entry", STTS, EMPTY_STSC, STSZ, STCO);
        dueDisagree("entry without chunks", STTS, STSC, STSZ, EMPTY_STCO);
        dueDisagree("entry without samples", EMPTY_STTS, STSC, EMPTY_STSZ, EMPTY_STCO);
        dueDisagree("samples without chunks", STTS, EMPTY_STSC, STSZ, EMPTY_STCO);
        dueDisagree("chunks without samples", EMPTY_STTS, STSC, EMPTY_STSZ, STCO);
        dueDisagree("entry above the chunks", STTS, box("stsc", n4(0, 2, 1, 2, 1, 2, 1, 1)), STSZ, STCO);
        dueDisagree("entry far above", STTS, box("stsc", n4(0, 2, 1, 2, 1, 2147483647L, 1, 1)), STSZ, STCO);
        dueDisagree("samples of chunks wrap round", STTS, box("stsc", n4(0, 2, 1, 2147483647L, 1, 3, 4, 1)), STSZ,
            box("stco", n4(0, 3, 8, 8, 8)));
        dueDisagree("17 chunks", box("stts", n4(0, 1, 16, 1)), box("stsc", n4(0, 1, 1, 1, 1)), box("stsz", n4(0, 1, 16)),
            box("stco", n4(0, 17), n4(new long[17])));
        dueGood("a size for no samples", withTables(EMPTY_STTS, EMPTY_STSC, box("stsz", n4(0, 2147483647L, 0)), EMPTY_STCO));
        dueGood("8 bytes for all", withTables(STTS, STSC, box("stsz", n4(0, 8, 2)), STCO));
        dueGood("two entries of one kind", withTables(box("stts", n4(0, 2, 1, 10, 1, 10)),
            box("stsc", n4(0, 2, 1, 1, 1, 2, 1, 1)), STSZ, box("stco", n4(0, 2, 8, 9))));
    }

    private static void duePlace(long begin, int fault) {
        byte[] stco = box("stco", n4(0, 1, begin));
        byte[] co64 = box("co64", n4(0, 1), n8(begin));
        dueFault("chunk at " + begin, withTables(STTS, STSC, STSZ, stco), fault, fault == 0 ? NONE : AT_STCO);
        dueFault("chunk at " + begin + ", co64", withTables(STTS, STSC, STSZ, co64), fault, fault == 0 ? NONE : AT_STCO);
    }

    private static void samplesOutside() {
        // Five bytes in mdat's content, 8 .. 23.
        duePlace(0, 7);
        duePlace(7, 7);
        duePlace(8, 0);
        duePlace(19, 0);
        duePlace(20, 7);
        duePlace(24, 7);
        duePlace(100, 7);
        duePlace(1200, 7);
        duePlace(2147483640L, 7);
        duePlace(2147483647L, 7);
        byte[] noBytes = box("stsz", n4(0, 0, 2, 0, 0));
        long[] anywhere = {0, 24, 5000, 2147483647L};
        for (long begin : anywhere) {
            dueGood("no bytes at " + begin, withTables(STTS, STSC, noBytes, box("stco", n4(0, 1, begin))));
        }
        byte[] firstEmpty = box("stsz", n4(0, 0, 2, 0, 1));
        dueGood("empty, then the first byte", withTables(STTS, STSC, firstEmpty, box("stco", n4(0, 1, 8))));
        dueGood("empty, then the last byte", withTables(STTS, STSC, firstEmpty, box("stco", n4(0, 1, 23))));
        dueFault("empty, then behind", withTables(STTS, STSC, firstEmpty, box("stco", n4(0, 1, 24))), 7, AT_STCO);
        byte[] lastEmpty = box("stsz", n4(0, 0, 2, 1, 0));
        dueGood("the last byte, then empty", withTables(STTS, STSC, lastEmpty, box("stco", n4(0, 1, 23))));
        byte[] twoChunks = box("stsc", n4(0, 1, 1, 1, 1));
        dueFault("second chunk outside", withTables(STTS, twoChunks, STSZ, box("stco", n4(0, 2, 8, 22))), 7, AT_STSZ + 28);
        dueGood("second chunk at the end", withTables(STTS, twoChunks, STSZ, box("stco", n4(0, 2, 8, 21))));
        byte[] one = box("stbl", box("stts", n4(0, 1, 1, 1)), STSC_ONE, box("stsz", n4(0, 1, 1)), box("stco", n4(0, 1, 15)));
        dueFault("in the head of a wide mdat", join(wide("mdat", raw(1)), box("moov", box("trak", one))), 7,
            17 + 24 + 24 + 28 + 20);
        byte[] behind = box("stbl", box("stts", n4(0, 1, 1, 1)), STSC_ONE, box("stsz", n4(0, 1, 1)), box("stco", n4(0, 1, 16)));
        dueGood("behind the head of a wide mdat", join(wide("mdat", raw(1)), box("moov", box("trak", behind))));
    }

    private static final byte[] STSC_ONE = box("stsc", n4(0, 1, 1, 1, 1));

    private static void orderOfTrackFaults() {
        byte[] good = box("trak", box("stbl", STTS, STSC, STSZ, STCO));
        byte[] badNumber = box("trak", box("stbl", STTS, STSC, STSZ, box("stco", n4(1, 1, 8))));
        byte[] disagrees = box("trak", box("stbl", STTS, EMPTY_STSC, STSZ, STCO));
        byte[] outside = box("trak", box("stbl", STTS, STSC, STSZ, box("stco", n4(0, 1, 3))));
        int first = 32;
        dueFault("5 before 6", join(DATA, box("moov", disagrees, badNumber)), 5, first + disagrees.length + 16 + 80);
        dueFault("6 before 7", join(DATA, box("moov", outside, disagrees)), 6, first + outside.length + 8);
        dueFault("5 before 7", join(DATA, box("moov", outside, badNumber)), 5, first + outside.length + 16 + 80);
        dueFault("first of two 6", join(DATA, box("moov", good, disagrees, disagrees)), 6, first + good.length + 8);
        dueFault("first of two 7", join(DATA, box("moov", good, outside, outside)), 7, first + good.length + 16 + 80);
        dueFault("7 in the third", join(DATA, box("moov", good, good, outside)), 7, first + 2 * good.length + 16 + 80);
        dueGood("three good ones", join(DATA, box("moov", good, good, good)));
    }

    // ---- promises 7 to 12 ----

    private static void place() {
        ReelOfBoxes x = smallReel();
        due("place() before read()", x.place(), NONE);
        x.write(1, 0);
        due("place() after write", x.place(), NONE);
        due("read()", x.read(), 0);
        due("place() when good", x.place(), NONE);
        int length = x.length();
        x.append(0, 1);
        due("place() before the next read()", x.place(), NONE);
        due("read() with a rest", x.read(), 1);
        due("place() of the rest", x.place(), length);
        x.cut(0);
        x.clear();
        x.write(1, 0);
        due("place() stays until read()", x.place(), length);
        due("read() anew", x.read(), 0);
        due("place() anew", x.place(), NONE);
    }

    private static void asking() {
        ReelOfBoxes x = smallReel();
        x.track();
        int[] noTracks = {-1, 2, 3, Integer.MAX_VALUE, Integer.MIN_VALUE};
        for (int t : noTracks) {
            due("samples(" + t + ")", x.samples(t), NONE);
            due("size(" + t + ", 0)", x.size(t, 0), NONE);
            due("time(" + t + ", 0)", x.time(t, 0), NONE);
            due("bytes(" + t + ", 0)", x.bytes(t, 0), 0);
        }
        int[] noSamples = {-1, 2, 16, Integer.MAX_VALUE, Integer.MIN_VALUE};
        for (int i : noSamples) {
            due("size(0, " + i + ")", x.size(0, i), NONE);
            due("bytes(0, " + i + ")", x.bytes(0, i), 0);
            due("time(0, " + i + ")", x.time(0, i), i == 2 ? 11 : NONE);
        }
        due("time(0, 3)", x.time(0, 3), NONE);
        due("time(0, 0)", x.time(0, 0), 0);
        due("time(0, 1)", x.time(0, 1), 5);
        due("time(1, 0) of an empty track", x.time(1, 0), 0);
        due("time(1, 1) of an empty track", x.time(1, 1), NONE);
        due("samples(1)", x.samples(1), 0);
        due("tracks()", x.tracks(), 2);
        for (int i = 0; i < 16; i++) {
            x.sample(1, Integer.MAX_VALUE, 0, 0);
        }
        due("time(1, 16)", x.time(1, 16), 16L * Integer.MAX_VALUE);
        due("time(1, 3)", x.time(1, 3), 3L * Integer.MAX_VALUE);
        due("time(1, 17)", x.time(1, 17), NONE);
    }

    // ---- promises 13 to 17 ----

    private static void bytesOfTheFile() {
        ReelOfBoxes x = new ReelOfBoxes();
        due("append of 3", x.append(0x1122334455667788L, 3), 3);
        due("append of 8", x.append(0x8122334455667788L, 8), 11);
        due("append of 1", x.append(-1, 1), 12);
        dueFile("appended", x, raw(0x66, 0x77, 0x88, 0x81, 0x22, 0x33, 0x44, 0x55, 0x66, 0x77, 0x88, 0xff));
        int[] wrongWidths = {0, -1, 9, Integer.MAX_VALUE, Integer.MIN_VALUE};
        for (int n : wrongWidths) {
            due("append of " + n, x.append(1, n), NONE);
        }
        due("length() after refusals", x.length(), 12);
        due("poke(0, 256 + 5)", x.poke(0, 261), true);
        due("at(0)", x.at(0), 5);
        due("poke(11, -2)", x.poke(11, -2), true);
        due("at(11)", x.at(11), 254);
        int[] wrongPlaces = {-1, 12, 1199, 1200, Integer.MAX_VALUE, Integer.MIN_VALUE};
        for (int i : wrongPlaces) {
            due("poke(" + i + ", 1)", x.poke(i, 1), false);
            due("at(" + i + ")", x.at(i), NONE);
        }
        due("cut(13)", x.cut(13), false);
        due("cut(-1)", x.cut(-1), false);
        due("cut(lowest)", x.cut(Integer.MIN_VALUE), false);
        due("cut(largest)", x.cut(Integer.MAX_VALUE), false);
        due("length() after refused cuts", x.length(), 12);
        due("cut(12)", x.cut(12), true);
        due("length() after cut(12)", x.length(), 12);
        due("cut(4)", x.cut(4), true);
        dueFile("after cut(4)", x, raw(5, 0x77, 0x88, 0x81));
        due("append after cut", x.append(9, 1), 5);
        dueFile("appended after cut", x, raw(5, 0x77, 0x88, 0x81, 9));
        due("cut(0)", x.cut(0), true);
        due("length() after cut(0)", x.length(), 0);
        for (int i = 1; i <= 149; i++) {
            due("filling", x.append(i, 8), 8 * i);
        }
        due("append of 1 to 1193", x.append(7, 1), 1193);
        due("append of 8 to 1201", x.append(-1, 8), NONE);
        due("length() after it", x.length(), 1193);
        due("append of 7 to 1200", x.append(0x77, 7), 1200);
        due("append of 1 to 1201", x.append(1, 1), NONE);
        due("at(1199)", x.at(1199), 0x77);
        due("at(1200)", x.at(1200), NONE);
        due("poke(1199, 1)", x.poke(1199, 1), true);
        due("poke(1200, 1)", x.poke(1200, 1), false);
        due("cut(1201)", x.cut(1201), false);
        due("tracks() of the reel beside it", x.tracks(), 0);
    }
}
