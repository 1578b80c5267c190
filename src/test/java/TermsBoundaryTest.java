import java.nio.charset.StandardCharsets;
import java.util.Arrays;

/** A test of its own for each sentence of the document's "Terms" that names a boundary case. */
public final class TermsBoundaryTest extends BoxTest {
    private static final long MOST = 2147483647L;
    private static final long[] TOO_MUCH = {MOST + 1, 0xfffffff8L, 0xffffffffL};
    private static final long[] TOO_MUCH_WIDE = {
        MOST + 1, 0xffffffffL, 1L << 32, (1L << 32) + 8, Long.MAX_VALUE, Long.MIN_VALUE, Long.MIN_VALUE + 8, -1,
    };

    public static void main(String[] args) {
        reelAndFile();
        boxes();
        goodFiles();
        tables();
        agreement();
        faultsOneToThree();
        faultsFourToSeven();
        end();
    }

    private static void reelAndFile() {
        sentence("A REEL has up to 3 TRACKS, 0 .. 2", TermsBoundaryTest::threeTracks);
        sentence("each a row of up to 16 SAMPLES", TermsBoundaryTest::sixteenSamples);
        sentence("a sample has a DURATION (0 .. 2147483647)", TermsBoundaryTest::durations);
        sentence("and up to 8 BYTES (0 .. 255)", TermsBoundaryTest::eightBytes);
        sentence("The TIME of a sample is the sum of the durations before it in its track.", TermsBoundaryTest::times);
        sentence("THE FILE is a row of up to 1200 bytes.", TermsBoundaryTest::fullFile);
        sentence("Numbers in it have their highest byte first.", TermsBoundaryTest::highestByteFirst);
    }

    private static void boxes() {
        sentence("it has so many bytes as SIZE says, or, if SIZE is 1, as the next 8 bytes say (the box is WIDE then)",
            TermsBoundaryTest::wideBoxes);
        sentence("What is behind these is its CONTENT.", TermsBoundaryTest::contentBehindTheHead);
        sentence("A box FITS when its size is at least 8", TermsBoundaryTest::leastSize);
        sentence("(16 for a wide one)", TermsBoundaryTest::leastWideSize);
        sentence("its head is within what it is in", TermsBoundaryTest::headWithin);
        sentence("and it ends within that", TermsBoundaryTest::endsWithin);
        sentence("(So sizes of 2^31 or more, or below 0, do not fit.)", TermsBoundaryTest::sizesTooLarge);
    }

    private static void goodFiles() {
        sentence("A file is GOOD when it is boxes, one behind the other, that fit and fill it",
            TermsBoundaryTest::boxesFillTheFile);
        sentence("one of them is of the type moov, one mdat", TermsBoundaryTest::oneMoovOneMdat);
        sentence("The content of moov is boxes that fit and fill it", () -> boxesFill(1));
        sentence("those of the type trak are the tracks, in their order, at most 3", TermsBoundaryTest::traksAreTheTracks);
        sentence("The content of a trak is boxes that fit and fill it", () -> boxesFill(2));
        sentence("one of them is stbl", TermsBoundaryTest::oneStbl);
        sentence("and that of stbl, too", () -> boxesFill(3));
        sentence("one of them is stts, one stsc, one stsz, and one stco or co64 (not both)",
            TermsBoundaryTest::oneOfEachTable);
        sentence("Boxes of other types may stand anywhere among these; their contents do not matter.",
            TermsBoundaryTest::otherBoxes);
    }

    private static void tables() {
        sentence("The contents of the last five are a ZERO (4 bytes, all 0)", TermsBoundaryTest::zeroOfEachTable);
        sentence("how many SAMPLES in a row (at least 1) and the duration of each of them", TermsBoundaryTest::entriesOfStts);
        sentence("the number of the FIRST chunk it tells of (1 for the first entry, more than that of the entry before for "
            + "the others)", TermsBoundaryTest::firstChunks);
        sentence("how many samples each chunk has from there on (at least 1)", TermsBoundaryTest::samplesOfEachChunk);
        sentence("and 1", TermsBoundaryTest::theOneOfStsc);
        sentence("stsz: a size for all samples, or 0, and how many SAMPLES there are; if it was 0, the size of each",
            TermsBoundaryTest::sizesOfSamples);
        sentence("stco: how many CHUNKS there are, and the place in the file (from 0) at which each begins",
            () -> placesFromZero("stco", 4));
        sentence("co64: likewise, with places of 8 bytes", () -> placesFromZero("co64", 8));
        sentence("All others are 4 bytes.", TermsBoundaryTest::numbersOfFourBytes);
    }

    private static void agreement() {
        sentence("They AGREE when stts tells of just so many samples as stsz", TermsBoundaryTest::sttsMeetsStsz);
        sentence("at most 16", TermsBoundaryTest::atMostSixteenSamples);
        sentence("none with more than 8 bytes", TermsBoundaryTest::atMostEightBytes);
        sentence("there are at most 16 chunks", TermsBoundaryTest::atMostSixteenChunks);
        sentence("no entry of stsc has a first chunk above how many there are", TermsBoundaryTest::entriesWithinTheChunks);
        sentence("and if there are chunks there is an entry", TermsBoundaryTest::chunksNeedAnEntry);
        sentence("and the chunks have just so many samples in all", TermsBoundaryTest::chunksMeetStsz);
        sentence("A sample's bytes begin behind those of the sample before in its chunk, the first one's where the chunk "
            + "begins.", TermsBoundaryTest::whereSamplesBegin);
        sentence("All bytes of all samples must lie within the content of mdat.", TermsBoundaryTest::withinMdat);
        sentence("(Numbers of 4 bytes above 2147483647, and of 8 bytes that are, or are below 0, are as such too much "
            + "everywhere.)", TermsBoundaryTest::tooMuchEverywhere);
    }

    private static void faultsOneToThree() {
        sentence("the first FAULT is told, 0 when the file is good", TermsBoundaryTest::firstFault);
        sentence("each box of the types moov, trak and stbl being gone into before the next one: 1 one that does not fit; "
            + "its place is where it begins", TermsBoundaryTest::goneIntoBeforeTheNext);
        sentence("2 for a second moov, mdat", TermsBoundaryTest::secondInTheFile);
        sentence("stbl (in its trak)", TermsBoundaryTest::secondStbl);
        sentence("stts, stsc, stsz, stco or co64 (in its stbl, of the last two a second one of either)",
            TermsBoundaryTest::secondTable);
        sentence("or a fourth trak; its place is where that box begins", TermsBoundaryTest::fourthTrak);
        sentence("where the file, a trak or a stbl ends, without all that it must have: 3, the place being where the trak or "
            + "stbl begins, 0 for the file", TermsBoundaryTest::missing);
        sentence("Faults 1 to 3 are told as they are come to", TermsBoundaryTest::asTheyAreComeTo);
        sentence("(moov, trak and stbl count only where they are looked for: moov in the file, trak in moov, stbl in trak)",
            TermsBoundaryTest::countOnlyWhereLookedFor);
    }

    private static void faultsFourToSeven() {
        sentence("(3) Track by track, stts, stsc, stsz, stco or co64", TermsBoundaryTest::tableByTable);
        sentence("4 when it is too short", TermsBoundaryTest::tooShort);
        sentence("or too long, for what it must have (the zero, how many, just so many entries)", TermsBoundaryTest::tooLong);
        sentence("5 when a number in it is not as said by itself (too much; the zero; 0 samples of an entry of stts or stsc; "
            + "the first chunk of an entry; what must be 1); the place is that of the box", TermsBoundaryTest::byItself);
        sentence("Of one box 4 comes before 5.", TermsBoundaryTest::fourBeforeFive);
        sentence("(4) Track by track: 6 when the tables do not agree, the place being that of the stbl.",
            TermsBoundaryTest::agreementTrackByTrack);
        sentence("(5) Track by track: 7 when a sample's bytes are not all in mdat, the place being that of the stco or co64.",
            TermsBoundaryTest::mdatTrackByTrack);
        sentence("(A sample without bytes is always right.)", TermsBoundaryTest::withoutBytes);
    }

    // ---- the reel and the file ----

    private static void threeTracks() {
        ReelOfBoxes x = new ReelOfBoxes();
        for (int t = 0; t < 3; t++) {
            due("samples(" + t + ") before its track()", x.samples(t), NONE);
            due("track()", x.track(), t);
            due("samples(" + t + ") after it", x.samples(t), 0);
        }
        due("track() when there are 3", x.track(), NONE);
        due("tracks()", x.tracks(), 3);
        due("samples(3)", x.samples(3), NONE);
        due("samples(-1)", x.samples(-1), NONE);
    }

    private static void sixteenSamples() {
        ReelOfBoxes x = new ReelOfBoxes();
        x.track();
        x.track();
        for (int i = 0; i < 16; i++) {
            due("sample " + i, x.sample(0, 1, i, 1), i);
        }
        due("a 17th sample", x.sample(0, 1, 16, 1), NONE);
        due("samples(0)", x.samples(0), 16);
        due("sample of the other track", x.sample(1, 1, 1, 1), 0);
        due("samples(1)", x.samples(1), 1);
    }

    private static void durations() {
        ReelOfBoxes x = new ReelOfBoxes();
        x.track();
        due("duration 0", x.sample(0, 0, 0, 0), 0);
        due("duration 2147483647", x.sample(0, Integer.MAX_VALUE, 0, 0), 1);
        due("duration -1", x.sample(0, -1, 0, 0), NONE);
        due("duration -2147483648", x.sample(0, Integer.MIN_VALUE, 0, 0), NONE);
        due("time(0, 1)", x.time(0, 1), 0);
        due("time(0, 2)", x.time(0, 2), MOST);
        due("write", x.write(16, 0) > 0, true);
        due("read", x.read(), 0);
        due("time(0, 1) after read", x.time(0, 1), 0);
        due("time(0, 2) after read", x.time(0, 2), MOST);
    }

    private static void eightBytes() {
        ReelOfBoxes x = new ReelOfBoxes();
        x.track();
        due("a sample of -1 bytes", x.sample(0, 1, 0, -1), NONE);
        due("a sample of 0 bytes", x.sample(0, 1, -1, 0), 0);
        due("a sample of 8 bytes", x.sample(0, 1, 0xff80007f01fe00ffL, 8), 1);
        due("a sample of 9 bytes", x.sample(0, 1, 0, 9), NONE);
        for (int round = 0; round < 2; round++) {
            due("size(0, 0)", x.size(0, 0), 0);
            due("bytes(0, 0)", x.bytes(0, 0), 0);
            due("size(0, 1)", x.size(0, 1), 8);
            due("bytes(0, 1)", x.bytes(0, 1), 0xff80007f01fe00ffL);
            due("write", x.write(1, 0) > 0, true);
            due("read", x.read(), 0);
        }
    }

    private static void times() {
        ReelOfBoxes x = new ReelOfBoxes();
        x.track();
        x.track();
        for (int i = 0; i < 16; i++) {
            x.sample(0, Integer.MAX_VALUE, 0, 0);
            x.sample(1, i, 0, 0);
        }
        for (int i = 0; i <= 16; i++) {
            due("time(0, " + i + ")", x.time(0, i), i * MOST);
            due("time(1, " + i + ")", x.time(1, i), (long) i * (i - 1) / 2);
        }
    }

    private static void fullFile() {
        ReelOfBoxes x = new ReelOfBoxes();
        for (int i = 1; i <= 150; i++) {
            due("append", x.append(i % 2 == 0 ? -1 : 0, 8), 8 * i);
        }
        due("append to a full file", x.append(0, 1), NONE);
        due("length()", x.length(), 1200);
        due("at(1199)", x.at(1199), 255);
        due("at(1200)", x.at(1200), NONE);

        byte[][] many = new byte[150][];
        for (int i = 0; i < 150; i++) {
            many[i] = box(i == 0 ? "mdat" : i == 149 ? "moov" : "free");
        }
        dueGood("150 boxes", join(many));
        // mdat ends the file: the last byte of the last sample is byte 1199.
        byte[] tables = join(ONE_STTS, ONE_STSC, box("stsz", n4(0, 8, 1)), box("stco", n4(0, 1, 1192)));
        byte[] moov = box("moov", box("trak", box("stbl", tables)));
        byte[] data = new byte[1200 - moov.length - 8];
        for (int i = 0; i < 8; i++) {
            data[data.length - 8 + i] = (byte) (i + 1);
        }
        ReelOfBoxes y = loaded(join(moov, box("mdat", data)));
        due("length() of a full file", y.length(), 1200);
        due("read()", y.read(), 0);
        due("bytes(0, 0)", y.bytes(0, 0), 0x0807060504030201L);
        dueFault("a sample beyond a full file", join(moovOfOne(8, 1193), box("mdat", data)), 7, PLACES_OF_ONE);
    }

    private static void highestByteFirst() {
        ReelOfBoxes x = new ReelOfBoxes();
        x.track();
        x.sample(0, 0x01020304, 0, 0);
        x.write(1, 1);
        byte[] moov = box("moov", box("trak", box("stbl", box("stts", n4(0, 1, 1, 0x01020304)), ONE_STSC,
            box("stsz", n4(0, 0, 1, 0)), box("co64", n4(0, 1), n8(24 + 24 + 28 + 24 + 24 + 8)))));
        dueFile("written", x, join(moov, EMPTY_MDAT));
        load(x, join(box("moov", box("trak", box("stbl", join(raw(0, 0, 0, 24), text("stts"), raw(0, 0, 0, 0, 0, 0, 0, 1,
            0, 0, 0, 1, 0x7f, 0xfe, 0x80, 0xff)), ONE_STSC, box("stsz", n4(0, 1, 1)), box("stco", n4(0, 1, 0x7c))))),
            box("mdat", raw(9))));
        due("read()", x.read(), 0);
        due("time(0, 1)", x.time(0, 1), 0x7ffe80ffL);
        due("bytes(0, 0)", x.bytes(0, 0), 9);
        byte[] large = box("free", new byte[0x0102 - 8]);
        dueGood("a size of two bytes", join(large, EMPTY_MOOV, EMPTY_MDAT));
    }

    // ---- boxes ----

    // One sample in one chunk.
    private static final byte[] ONE_STTS = box("stts", n4(0, 1, 1, 1));
    private static final byte[] ONE_STSC = box("stsc", n4(0, 1, 1, 1, 1));
    private static final int PLACES_OF_ONE = 24 + 24 + 28 + 20;

    private static byte[] moovOfOne(long size, long place) {
        byte[] stsz = box("stsz", n4(0, size, 1));
        return box("moov", box("trak", box("stbl", ONE_STTS, ONE_STSC, stsz, box("stco", n4(0, 1, place)))));
    }

    private static final byte[] TABLES = join(EMPTY_STTS, EMPTY_STSC, EMPTY_STSZ, EMPTY_STCO);
    private static final int[] PLACES_OF_REST = {
        16, 8 + EMPTY_TRAK.length, 16 + EMPTY_STBL.length, 24 + TABLES.length,
    };

    /** A file, good but for the rest, which is the last of the file (level 0), of moov (1), of a trak (2), of a stbl (3). */
    private static byte[] withRest(int level, byte[] rest) {
        byte[] behind = box("mdat", new byte[40]);
        switch (level) {
            case 0:
                return join(EMPTY_MOOV, EMPTY_MDAT, rest);
            case 1:
                return join(box("moov", EMPTY_TRAK, rest), behind);
            case 2:
                return join(box("moov", box("trak", EMPTY_STBL, rest)), behind);
            default:
                return join(box("moov", box("trak", box("stbl", TABLES, rest))), behind);
        }
    }

    private static void dueFits(String what, byte[] rest, boolean fits) {
        for (int level = 0; level < 4; level++) {
            dueFault(what + ", level " + level, withRest(level, rest), fits ? 0 : 1, fits ? NONE : PLACES_OF_REST[level]);
        }
    }

    private static void wideBoxes() {
        byte[][] tables = {STTS, STSC, STSZ, STCO};
        for (int w = 0; w < 4; w++) {
            byte[][] some = tables.clone();
            byte[] table = tables[w];
            some[w] = wide(new String(table, 4, 4, StandardCharsets.ISO_8859_1),
                Arrays.copyOfRange(table, 8, table.length));
            ReelOfBoxes x = loaded(withTables(some));
            due("table " + w + " wide: read()", x.read(), 0);
            due("its bytes(0, 1)", x.bytes(0, 1), 0x050403);
        }
        byte[] stbl = wide("stbl", STTS, STSC, STSZ, wide("co64", n4(0, 1), n8(16)));
        ReelOfBoxes x = loaded(join(wide("mdat", raw(1, 2, 3, 4, 5)), wide("moov", wide("trak", stbl))));
        due("all wide: read()", x.read(), 0);
        due("all wide: bytes(0, 0)", x.bytes(0, 0), 0x0201);
        due("all wide: bytes(0, 1)", x.bytes(0, 1), 0x050403);
        dueFits("wide, other", wide("free", raw(1, 2, 3)), true);
        // 2 is no wide size, only 1 is.
        dueFits("size 2", join(n4(2), text("free"), n8(16)), false);
    }

    private static void contentBehindTheHead() {
        byte[] data = raw(0x41, 0x42, 0x43);
        int moov = PLACES_OF_ONE + 20;
        byte[] narrow = box("mdat", data);
        dueFault("the head's last byte", join(moovOfOne(1, moov + 7), narrow), 7, PLACES_OF_ONE);
        dueByte("the content's first byte", join(moovOfOne(1, moov + 8), narrow), 0x41);
        dueByte("the content's last byte", join(moovOfOne(1, moov + 10), narrow), 0x43);
        byte[] wideOne = wide("mdat", data);
        dueFault("the wide head's last byte", join(moovOfOne(1, moov + 15), wideOne), 7, PLACES_OF_ONE);
        dueByte("the wide content's first byte", join(moovOfOne(1, moov + 16), wideOne), 0x41);
        dueByte("the wide content's last byte", join(moovOfOne(1, moov + 18), wideOne), 0x43);
        dueGood("an empty content", join(EMPTY_MOOV, EMPTY_MDAT));
        dueGood("an empty wide content", join(wide("moov"), wide("mdat")));
    }

    private static void dueByte(String what, byte[] file, int value) {
        ReelOfBoxes x = loaded(file);
        due(what + ": read()", x.read(), 0);
        due(what + ": bytes(0, 0)", x.bytes(0, 0), value);
    }

    private static void leastSize() {
        for (int size = 0; size < 8; size++) {
            dueFits("size " + size, sized(size, "free"), false);
            dueFits("size " + size + " and 8 bytes", sized(size, "free", n8(0)), false);
        }
        dueFits("size 8", sized(8, "free"), true);
        dueFault("size 7, no place behind", sized(7, "free"), 1, 0);
    }

    private static void leastWideSize() {
        for (int size = 0; size < 16; size++) {
            dueFits("wide size " + size, wideSized(size, "free"), false);
            dueFits("wide size " + size + " and 8 bytes", wideSized(size, "free", n8(0)), false);
        }
        dueFits("wide size 16", wideSized(16, "free"), true);
    }

    private static void headWithin() {
        for (int n = 1; n < 8; n++) {
            dueFits(n + " bytes", new byte[n], false);
            dueFits(n + " bytes, of a good head", Arrays.copyOf(box("free"), n), false);
        }
        for (int n = 8; n < 16; n++) {
            dueFits(n + " bytes of a wide head", Arrays.copyOf(wide("free"), n), false);
        }
        // What is behind would make the head whole.
        byte[] half = join(n4(1), text("free"));
        dueFault("half a wide head, moov", join(box("moov", half), n8(16), EMPTY_MDAT), 1, 8);
        dueFault("half a wide head, trak", join(box("moov", box("trak", half)), n8(16), EMPTY_MDAT), 1, 16);
        dueFault("half a wide head, stbl", join(box("moov", box("trak", box("stbl", half))), n8(16), EMPTY_MDAT), 1, 24);
    }

    private static void endsWithin() {
        for (int n = 0; n < 10; n++) {
            byte[] content = new byte[n];
            dueFits("as long as it says, " + n, sized(8 + n, "free", content), true);
            dueFits("a byte shorter than it says, " + n, sized(9 + n, "free", content), false);
            dueFits("as long as it says, wide, " + n, wideSized(16 + n, "free", content), true);
            dueFits("a byte shorter than it says, wide, " + n, wideSized(17 + n, "free", content), false);
        }
        for (String type : new String[] {"moov", "mdat", "trak", "stbl", "stts", "free"}) {
            dueFits("a byte beyond, " + type, sized(9, type), false);
            dueFits("to the end of the file and beyond, " + type, sized(5000, type), false);
        }
    }

    private static void sizesTooLarge() {
        for (long size : new long[] {MOST - 8, MOST, MOST + 1, MOST + 9, 0xfffffff8L, 0xffffffffL}) {
            dueFits("size " + size, sized(size, "free"), false);
            dueFits("wide size " + size, wideSized(size, "free"), false);
        }
        for (long size : new long[] {1L << 32, (1L << 32) + 16, Long.MAX_VALUE, Long.MAX_VALUE - 16, Long.MIN_VALUE,
            Long.MIN_VALUE + 16, -1, -16, (1L << 63) + (1L << 32) + 16}) {
            dueFits("wide size " + size, wideSized(size, "free"), false);
        }
        for (String type : new String[] {"moov", "mdat"}) {
            dueFault(type + " of 2^31", sized(MOST + 1, type), 1, 0);
            dueFault(type + " of -1", sized(-1, type), 1, 0);
            dueFault("wide " + type + " of 2^32 + 16", wideSized((1L << 32) + 16, type), 1, 0);
            dueFault("wide " + type + " of -1", wideSized(-1, type), 1, 0);
        }
    }

    // ---- good files ----

    private static void boxesFillTheFile() {
        dueGood("two boxes", join(EMPTY_MOOV, EMPTY_MDAT));
        for (int n = 1; n < 8; n++) {
            dueFault(n + " bytes behind", join(EMPTY_MOOV, EMPTY_MDAT, new byte[n]), 1, 16);
            dueFault(n + " bytes before", join(new byte[n], EMPTY_MOOV, EMPTY_MDAT), 1, 0);
            dueFault(n + " bytes between", join(EMPTY_MOOV, new byte[n], EMPTY_MDAT), 1, 8);
        }
        dueGood("8 bytes more that are a box", join(EMPTY_MOOV, EMPTY_MDAT, box("\0\0\0\0")));
        dueFault("an empty file", raw(), 3, 0);
    }

    private static void oneMoovOneMdat() {
        dueGood("moov, mdat", join(EMPTY_MOOV, EMPTY_MDAT));
        dueGood("mdat, moov", join(EMPTY_MDAT, EMPTY_MOOV));
        dueFault("no moov", EMPTY_MDAT, 3, 0);
        dueFault("no mdat", EMPTY_MOOV, 3, 0);
        dueFault("two moov", join(EMPTY_MOOV, EMPTY_MDAT, EMPTY_MOOV), 2, 16);
        dueFault("two mdat", join(EMPTY_MOOV, EMPTY_MDAT, EMPTY_MDAT), 2, 16);
        for (String type : new String[] {"Moov", "mOov", "moOv", "mooV", "mood", "\0moo", "voom"}) {
            dueFault(type, join(box(type), EMPTY_MDAT), 3, 0);
        }
        for (String type : new String[] {"Mdat", "mDat", "mdAt", "mdaT", "tadm"}) {
            dueFault(type, join(EMPTY_MOOV, box(type)), 3, 0);
        }
    }

    private static void boxesFill(int level) {
        for (int n = 1; n < 8; n++) {
            dueFault(n + " bytes behind, level " + level, withRest(level, new byte[n]), 1, PLACES_OF_REST[level]);
            dueFault(n + " bytes behind a box, level " + level, withRest(level, join(box("free"), new byte[n])), 1,
                PLACES_OF_REST[level] + 8);
        }
        dueGood("nothing behind, level " + level, withRest(level, raw()));
        dueGood("a box behind, level " + level, withRest(level, box("free")));
        dueGood("two boxes behind, level " + level, withRest(level, join(box("free", raw(1)), box("skip"))));
    }

    /** A trak with so many samples without bytes, of this duration, in one chunk. */
    private static byte[] trakOf(int samples, long duration) {
        if (samples == 0) {
            return EMPTY_TRAK;
        }
        return box("trak", box("stbl", box("stts", n4(0, 1, samples, duration)), box("stsc", n4(0, 1, 1, samples, 1)),
            box("stsz", n4(0, 0, samples), n4(new long[samples])), box("stco", n4(0, 1, 0))));
    }

    private static void traksAreTheTracks() {
        byte[] traks = raw();
        for (int count = 0; count <= 3; count++) {
            ReelOfBoxes x = loaded(join(box("moov", traks), EMPTY_MDAT));
            due(count + " traks: read()", x.read(), 0);
            due(count + " traks: tracks()", x.tracks(), count);
            for (int t = 0; t < 3; t++) {
                due(count + " traks: samples(" + t + ")", x.samples(t), t < count ? t + 1 : NONE);
                due(count + " traks: time(" + t + ", 1)", x.time(t, 1), t < count ? 10 + t : NONE);
            }
            if (count < 3) {
                traks = join(traks, trakOf(count + 1, 10 + count));
            }
        }
        dueFault("a fourth trak", join(box("moov", traks, EMPTY_TRAK), EMPTY_MDAT), 2, 8 + traks.length);
        ReelOfBoxes y = loaded(join(box("moov", trakOf(2, 1), box("free"), trakOf(0, 0), trakOf(1, 1)), EMPTY_MDAT));
        due("an empty one between: read()", y.read(), 0);
        due("an empty one between: samples(0)", y.samples(0), 2);
        due("an empty one between: samples(1)", y.samples(1), 0);
        due("an empty one between: samples(2)", y.samples(2), 1);
    }

    private static void oneStbl() {
        dueGood("one stbl", join(box("moov", box("trak", EMPTY_STBL)), EMPTY_MDAT));
        dueFault("no stbl", join(box("moov", box("trak")), EMPTY_MDAT), 3, 8);
        dueFault("two stbl", join(box("moov", box("trak", EMPTY_STBL, EMPTY_STBL)), EMPTY_MDAT), 2, 16 + EMPTY_STBL.length);
        dueFault("another type", join(box("moov", box("trak", box("stbL", TABLES))), EMPTY_MDAT), 3, 8);
        dueGood("one in each trak", join(box("moov", EMPTY_TRAK, EMPTY_TRAK), EMPTY_MDAT));
    }

    private static byte[] withStbl(byte[]... inside) {
        return join(box("moov", box("trak", box("stbl", inside))), EMPTY_MDAT);
    }

    private static void oneOfEachTable() {
        byte[][] tables = {EMPTY_STTS, EMPTY_STSC, EMPTY_STSZ, EMPTY_STCO};
        dueGood("with stco", withStbl(tables));
        dueGood("with co64", withStbl(EMPTY_STTS, EMPTY_STSC, EMPTY_STSZ, EMPTY_CO64));
        dueGood("in another order", withStbl(EMPTY_CO64, EMPTY_STSZ, EMPTY_STTS, EMPTY_STSC));
        dueFault("with both", withStbl(EMPTY_STTS, EMPTY_STSC, EMPTY_STSZ, EMPTY_STCO, EMPTY_CO64), 2, 24 + TABLES.length);
        dueFault("with both, the other way", withStbl(EMPTY_CO64, EMPTY_STCO), 2, 40);
        for (int without = 0; without < 4; without++) {
            byte[][] some = tables.clone();
            some[without] = box("free");
            dueFault("without " + without, withStbl(some), 3, 16);
            some[without] = join(tables[without], tables[without]);
            int place = 24;
            for (int i = 0; i <= without; i++) {
                place += tables[i].length;
            }
            dueFault("with two of " + without, withStbl(some), 2, place);
        }
        dueFault("with none", withStbl(), 3, 16);
    }

    private static void otherBoxes() {
        byte[][] contents = {raw(), raw(1), n8(0), sized(3, "moov"), join(EMPTY_MOOV, EMPTY_MDAT), EMPTY_TRAK, TABLES};
        for (byte[] content : contents) {
            byte[] other = box("free", content);
            byte[] stbl = box("stbl", other, EMPTY_STTS, other, EMPTY_STSC, other, EMPTY_STSZ, other, EMPTY_STCO, other);
            byte[] trak = box("trak", other, stbl, other);
            byte[] moov = box("moov", other, trak, other, trak, other);
            String what = "others with " + content.length + " bytes";
            if (other.length < 40) {
                dueGood(what, join(other, moov, other, EMPTY_MDAT, other));
            }
            for (int level = 0; level < 4; level++) {
                dueGood(what + ", level " + level, withRest(level, join(other, other)));
            }
        }
        dueFits("a type of zeros", box("\0\0\0\0"), true);
        dueFits("a type of 255", box("\u00ff\u00ff\u00ff\u00ff"), true);
    }

    // ---- tables ----

    private static final String[] TYPES = {"stts", "stsc", "stsz", "stco", "co64"};
    private static final int[] PLACES = {AT_STTS, AT_STSC, AT_STSZ, AT_STCO, AT_STCO};

    /** The file of two samples, with other content in the box of one type. */
    private static byte[] withContent(int which, byte[] content) {
        byte[][] tables = {STTS, STSC, STSZ, STCO};
        tables[Math.min(which, 3)] = box(TYPES[which], content);
        return withTables(tables);
    }

    private static byte[] rightContent(int which) {
        switch (which) {
            case 0:
                return n4(0, 1, 2, 10);
            case 1:
                return n4(0, 1, 1, 2, 1);
            case 2:
                return n4(0, 0, 2, 2, 3);
            case 3:
                return n4(0, 1, 8);
            default:
                return join(n4(0, 1), n8(8));
        }
    }

    private static void dueTable(String what, int which, byte[] content, int fault) {
        int place = fault == 0 ? NONE : fault == 6 ? 40 : PLACES[which];
        dueFault(TYPES[which] + ", " + what, withContent(which, content), fault, place);
    }

    private static void zeroOfEachTable() {
        for (int which = 0; which < 5; which++) {
            dueTable("a right zero", which, rightContent(which), 0);
            for (int b = 0; b < 4; b++) {
                for (int value : new int[] {1, 128, 255}) {
                    byte[] content = rightContent(which);
                    content[b] = (byte) value;
                    dueTable("byte " + b + " of the zero is " + value, which, content, 5);
                }
            }
        }
    }

    private static void entriesOfStts() {
        dueTable("1 sample in a row", 0, n4(0, 2, 1, 10, 1, 10), 0);
        dueTable("0 samples in a row", 0, n4(0, 1, 0, 10), 5);
        dueTable("0 samples in the second row", 0, n4(0, 2, 2, 10, 0, 10), 5);
        dueTable("0 samples in the first row", 0, n4(0, 2, 0, 10, 2, 10), 5);
        dueTable("duration 0", 0, n4(0, 1, 2, 0), 0);
        dueTable("largest duration", 0, n4(0, 1, 2, MOST), 0);
        dueTable("duration too much", 0, n4(0, 1, 2, MOST + 1), 5);
        ReelOfBoxes x = loaded(withContent(0, n4(0, 2, 1, MOST, 1, 0)));
        due("read()", x.read(), 0);
        due("time(0, 1)", x.time(0, 1), MOST);
        due("time(0, 2)", x.time(0, 2), MOST);
        byte[] rows = raw();
        for (int i = 1; i <= 16; i++) {
            rows = join(rows, n4(1, i));
        }
        ReelOfBoxes y = loaded(withTables(box("stts", n4(0, 16), rows), box("stsc", n4(0, 1, 1, 16, 1)),
            box("stsz", n4(0, 1, 16)), STCO));
        due("16 entries: read()", y.read(), 0);
        due("16 entries: time(0, 16)", y.time(0, 16), 136);
        due("no entries for no samples", loaded(withStbl(TABLES)).read(), 0);
    }

    /** One sample a chunk in so many chunks, by these entries of stsc. */
    private static void dueFirstChunks(String what, int chunks, long[] firsts, int fault) {
        byte[] entries = raw();
        for (long first : firsts) {
            entries = join(entries, n4(first, 1, 1));
        }
        long[] places = new long[chunks];
        Arrays.fill(places, 8);
        byte[] file = withTables(box("stts", n4(0, 1, chunks, 1)), box("stsc", n4(0, firsts.length), entries),
            box("stsz", n4(0, 1, chunks)), box("stco", n4(0, chunks), n4(places)));
        dueFault(what, file, fault, fault == 0 ? NONE : fault == 6 ? 40 : AT_STSC);
    }

    private static void firstChunks() {
        dueFirstChunks("1", 3, new long[] {1}, 0);
        dueFirstChunks("0", 3, new long[] {0}, 5);
        dueFirstChunks("2", 3, new long[] {2}, 5);
        dueFirstChunks("1, 2", 3, new long[] {1, 2}, 0);
        dueFirstChunks("1, 3", 3, new long[] {1, 3}, 0);
        dueFirstChunks("1, 1", 3, new long[] {1, 1}, 5);
        dueFirstChunks("1, 0", 3, new long[] {1, 0}, 5);
        dueFirstChunks("0, 1", 3, new long[] {0, 1}, 5);
        dueFirstChunks("1, 2, 3", 3, new long[] {1, 2, 3}, 0);
        dueFirstChunks("1, 2, 2", 3, new long[] {1, 2, 2}, 5);
        dueFirstChunks("1, 3, 2", 3, new long[] {1, 3, 2}, 5);
        dueFirstChunks("1, 2, 1", 3, new long[] {1, 2, 1}, 5);
        dueFirstChunks("1, largest", 3, new long[] {1, MOST}, 6);
        dueFirstChunks("1, largest, largest", 3, new long[] {1, MOST, MOST}, 5);
        dueFirstChunks("1, too much", 3, new long[] {1, MOST + 1}, 5);
        dueFirstChunks("1, -1", 3, new long[] {1, -1}, 5);
        dueFirstChunks("1 .. 16", 16, new long[] {1, 2, 3, 4, 5, 6, 7, 8, 9, 10, 11, 12, 13, 14, 15, 16}, 0);
    }

    private static void samplesOfEachChunk() {
        dueTable("2 samples", 1, n4(0, 1, 1, 2, 1), 0);
        dueTable("0 samples", 1, n4(0, 1, 1, 0, 1), 5);
        dueTable("0 samples in the second entry", 1, n4(0, 2, 1, 2, 1, 2, 0, 1), 5);
        dueTable("0 samples in the first entry", 1, n4(0, 2, 1, 0, 1, 2, 2, 1), 5);
        // From there on: chunks 1 and 2 have one sample each, 3 to 5 two each.
        byte[] stco = box("stco", n4(0, 5, 8, 9, 10, 12, 14));
        ReelOfBoxes x = loaded(withTables(box("stts", n4(0, 1, 8, 1)), box("stsc", n4(0, 2, 1, 1, 1, 3, 2, 1)),
            box("stsz", n4(0, 1, 8)), stco));
        due("from there on: read()", x.read(), 0);
        int[] values = {1, 2, 3, 4, 5, 6, 7, 8};
        for (int i = 0; i < 8; i++) {
            due("from there on: bytes(0, " + i + ")", x.bytes(0, i), values[i]);
        }
        for (int size = 8; size <= 16; size++) {
            dueNoEntryBehind(box("free", new byte[size - 8]));
        }
        dueNoEntryBehind(wide("free"));
    }

    /** The size of a box behind stsc could be taken for the first chunk of one more entry. */
    private static void dueNoEntryBehind(byte[] other) {
        long[] places = new long[16];
        for (int i = 0; i < 16; i++) {
            places[i] = 23 - i;
        }
        byte[] stts = box("stts", n4(0, 1, 16, 1));
        byte[] stsz = box("stsz", n4(0, 1, 16));
        byte[] stco = box("stco", n4(0, 16), n4(places));
        byte[][] stscs = {ONE_STSC, box("stsc", n4(0, 2, 1, 1, 1, 2, 1, 1))};
        for (byte[] stsc : stscs) {
            ReelOfBoxes x = loaded(withTables(stts, stsc, other, stsz, stco));
            due("a box of " + other.length + " behind stsc: read()", x.read(), 0);
            for (int i = 0; i < 16; i++) {
                due("a box of " + other.length + " behind stsc: bytes(0, " + i + ")", x.bytes(0, i), 16 - i);
            }
        }
    }

    private static void theOneOfStsc() {
        for (long other : new long[] {0, 2, 256, 0x01000000L, MOST, MOST + 1, 0xffffffffL}) {
            dueTable("its 1 is " + other, 1, n4(0, 1, 1, 2, other), 5);
            dueTable("its second 1 is " + other, 1, n4(0, 2, 1, 1, 1, 2, 1, other), 5);
            dueTable("its first 1 is " + other, 1, n4(0, 2, 1, 1, other, 2, 1, 1), 5);
        }
        dueTable("its 1 is 1", 1, n4(0, 1, 1, 2, 1), 0);
    }

    private static void sizesOfSamples() {
        ReelOfBoxes x = loaded(withContent(2, n4(0, 3, 2)));
        due("a size for all: read()", x.read(), 0);
        due("a size for all: size(0, 0)", x.size(0, 0), 3);
        due("a size for all: size(0, 1)", x.size(0, 1), 3);
        due("a size for all: bytes(0, 1)", x.bytes(0, 1), 0x060504);
        ReelOfBoxes y = loaded(withContent(2, n4(0, 0, 2, 8, 0)));
        due("a size of each: read()", y.read(), 0);
        due("a size of each: size(0, 0)", y.size(0, 0), 8);
        due("a size of each: size(0, 1)", y.size(0, 1), 0);
        dueTable("a size for all, and sizes", 2, n4(0, 3, 2, 3, 3), 4);
        dueTable("a size for all, and one size", 2, n4(0, 3, 2, 3), 4);
        dueTable("no size for all, no sizes", 2, n4(0, 0, 2), 4);
        dueTable("smallest size for all", 2, n4(0, 1, 2), 0);
        dueTable("largest size for all", 2, n4(0, 8, 2), 0);
        dueGood("no samples, a size for all", withStbl(EMPTY_STTS, EMPTY_STSC, box("stsz", n4(0, 1, 0)), EMPTY_STCO));
        dueGood("no samples, a large size for all",
            withStbl(EMPTY_STTS, EMPTY_STSC, box("stsz", n4(0, MOST, 0)), EMPTY_STCO));
    }

    private static void placesFromZero(String type, int width) {
        // mdat begins the file: its content's first byte is byte 8, counted from 0.
        for (int begin = 8; begin <= 22; begin++) {
            byte[] places = box(type, n4(0, 1), wideNumber(begin, width));
            dueByte(type + " at " + begin, withTables(ONE_STTS, ONE_STSC, box("stsz", n4(0, 2, 1)), places),
                begin - 7 + (begin - 6) * 256);
        }
        byte[] none = box(type, n4(0, 0));
        dueGood(type + " without chunks", withStbl(EMPTY_STTS, EMPTY_STSC, EMPTY_STSZ, none));
        byte[] chunks = raw();
        for (int i = 0; i < 16; i++) {
            chunks = join(chunks, wideNumber(23 - i, width));
        }
        ReelOfBoxes x = loaded(withTables(box("stts", n4(0, 1, 16, 1)), ONE_STSC, box("stsz", n4(0, 1, 16)),
            box(type, n4(0, 16), chunks)));
        due(type + ", 16 chunks: read()", x.read(), 0);
        for (int i = 0; i < 16; i++) {
            due(type + ", 16 chunks: bytes(0, " + i + ")", x.bytes(0, i), 16 - i);
        }
    }

    private static void numbersOfFourBytes() {
        dueTable("places of 8 bytes", 3, join(n4(0, 1), n8(8)), 4);
        dueTable("places of 4 bytes", 4, n4(0, 1, 8), 4);
        dueTable("how many in 8 bytes", 0, join(n4(0), n8(1), n4(2, 10)), 4);
        dueTable("how many in 8 bytes", 1, join(n4(0), n8(1), n4(1, 2, 1)), 4);
        dueTable("how many in 8 bytes", 4, join(n4(0), n8(1), n8(8)), 4);
        dueTable("places as two numbers", 4, n4(0, 1, 0, 8), 0);
    }

    // ---- agreement ----

    private static void dueAgree(String what, boolean agrees, byte[]... tables) {
        dueFault(what, withTables(tables), agrees ? 0 : 6, agrees ? NONE : 40);
    }

    private static void sttsMeetsStsz() {
        dueAgree("as many", true, STTS, STSC, STSZ, STCO);
        dueAgree("one fewer", false, box("stts", n4(0, 1, 1, 10)), STSC, STSZ, STCO);
        dueAgree("one more", false, box("stts", n4(0, 1, 3, 10)), STSC, STSZ, STCO);
        dueAgree("one more, in an entry", false, box("stts", n4(0, 2, 2, 10, 1, 10)), STSC, STSZ, STCO);
        dueAgree("none in stts", false, EMPTY_STTS, STSC, STSZ, STCO);
        dueAgree("none in stsz", false, STTS, EMPTY_STSC, EMPTY_STSZ, EMPTY_STCO);
        dueAgree("the most", false, box("stts", n4(0, 1, MOST, 10)), STSC, STSZ, STCO);
        // 2^32 + 2: as 4 bytes it would be 2.
        dueAgree("wrapped round", false, box("stts", n4(0, 3, MOST, 1, MOST, 1, 4, 1)), STSC, STSZ, STCO);
        dueAgree("wrapped round, the first two", false, box("stts", n4(0, 4, 2, 1, MOST, 1, MOST, 1, 2, 1)), STSC, STSZ, STCO);
    }

    private static byte[][] tablesOf(int samples) {
        return new byte[][] {
            box("stts", n4(0, 1, samples, 1)), box("stsc", n4(0, 1, 1, samples, 1)), box("stsz", n4(0, 1, samples)), STCO,
        };
    }

    private static void atMostSixteenSamples() {
        dueAgree("15 samples", true, tablesOf(15));
        dueAgree("16 samples", true, tablesOf(16));
        ReelOfBoxes x = loaded(withTables(tablesOf(16)));
        due("read() of 16", x.read(), 0);
        due("samples(0) of 16", x.samples(0), 16);
        due("bytes(0, 15) of 16", x.bytes(0, 15), 16);
        dueAgree("17 samples", false, tablesOf(17));
        dueAgree("2147483647 samples", false, tablesOf(Integer.MAX_VALUE));
        dueAgree("17 sizes", false, box("stts", n4(0, 1, 17, 1)), box("stsc", n4(0, 1, 1, 17, 1)),
            box("stsz", n4(0, 0, 17), n4(new long[17])), STCO);
        byte[] rows = raw();
        for (int i = 0; i < 17; i++) {
            rows = join(rows, n4(1, i));
        }
        dueAgree("17 entries of stts", false, box("stts", n4(0, 17), rows), box("stsc", n4(0, 1, 1, 17, 1)),
            box("stsz", n4(0, 1, 17)), STCO);
        dueAgree("17 samples without bytes", false, box("stts", n4(0, 1, 17, 1)), box("stsc", n4(0, 1, 1, 17, 1)),
            box("stsz", n4(0, 0, 17), n4(new long[17])), box("stco", n4(0, 1, 0)));
    }

    private static void atMostEightBytes() {
        dueAgree("8 bytes", true, STTS, STSC, box("stsz", n4(0, 0, 2, 8, 8)), STCO);
        dueAgree("9 bytes, first", false, STTS, STSC, box("stsz", n4(0, 0, 2, 9, 1)), STCO);
        dueAgree("9 bytes, last", false, STTS, STSC, box("stsz", n4(0, 0, 2, 1, 9)), STCO);
        dueAgree("2147483647 bytes", false, STTS, STSC, box("stsz", n4(0, 0, 2, MOST, 1)), STCO);
        dueAgree("8 bytes for all", true, STTS, STSC, box("stsz", n4(0, 8, 2)), STCO);
        dueAgree("9 bytes for all", false, STTS, STSC, box("stsz", n4(0, 9, 2)), STCO);
        dueAgree("2147483647 bytes for all", false, STTS, STSC, box("stsz", n4(0, MOST, 2)), STCO);
        long[] sizes = new long[16];
        byte[] stts = box("stts", n4(0, 1, 16, 1));
        byte[] stsc = box("stsc", n4(0, 1, 1, 16, 1));
        sizes[15] = 8;
        dueAgree("8 bytes, the 16th", true, stts, stsc, box("stsz", n4(0, 0, 16), n4(sizes)), STCO);
        sizes[15] = 9;
        dueAgree("9 bytes, the 16th", false, stts, stsc, box("stsz", n4(0, 0, 16), n4(sizes)), STCO);
    }

    private static void atMostSixteenChunks() {
        for (int chunks = 15; chunks <= 18; chunks++) {
            long[] places = new long[chunks];
            Arrays.fill(places, 8);
            int samples = Math.min(chunks, 16);
            byte[] stco = box("stco", n4(0, chunks), n4(places));
            dueAgree(chunks + " chunks", chunks <= 16, box("stts", n4(0, 1, samples, 1)), ONE_STSC,
                box("stsz", n4(0, 1, samples)), stco);
            dueAgree(chunks + " chunks without samples", false, EMPTY_STTS, EMPTY_STSC, EMPTY_STSZ, stco);
            dueAgree(chunks + " chunks, as many samples", chunks <= 16, box("stts", n4(0, 1, chunks, 1)), ONE_STSC,
                box("stsz", n4(0, 1, chunks)), stco);
        }
        dueAgree("200 chunks", false, STTS, STSC, STSZ, box("stco", n4(0, 200), n4(new long[200])));
        dueAgree("100 chunks of co64", false, STTS, STSC, STSZ, box("co64", n4(0, 100), n8(new long[100])));
    }

    private static void entriesWithinTheChunks() {
        byte[] twoChunks = box("stco", n4(0, 2, 8, 9));
        dueAgree("the last chunk", true, STTS, box("stsc", n4(0, 2, 1, 1, 1, 2, 1, 1)), STSZ, twoChunks);
        dueAgree("one behind the last", false, STTS, box("stsc", n4(0, 2, 1, 1, 1, 3, 1, 1)), STSZ, twoChunks);
        dueAgree("one behind the only one", false, STTS, box("stsc", n4(0, 2, 1, 2, 1, 2, 1, 1)), STSZ, STCO);
        dueAgree("two behind the only one", false, STTS, box("stsc", n4(0, 2, 1, 2, 1, 3, 1, 1)), STSZ, STCO);
        dueAgree("far behind", false, STTS, box("stsc", n4(0, 2, 1, 2, 1, MOST, 1, 1)), STSZ, STCO);
        dueAgree("an entry, no chunks", false, EMPTY_STTS, STSC, EMPTY_STSZ, EMPTY_STCO);
        byte[] rising = raw();
        for (int i = 1; i <= 17; i++) {
            rising = join(rising, n4(i, 1, 1));
        }
        byte[] sixteen = box("stco", n4(0, 16, 8, 8, 8, 8, 8, 8, 8, 8, 8, 8, 8, 8, 8, 8, 8, 8));
        dueAgree("17 entries, 16 chunks", false, box("stts", n4(0, 1, 16, 1)), box("stsc", n4(0, 17), rising),
            box("stsz", n4(0, 1, 16)), sixteen);
    }

    private static void chunksNeedAnEntry() {
        dueAgree("no chunk, no entry", true, EMPTY_STTS, EMPTY_STSC, EMPTY_STSZ, EMPTY_STCO);
        dueAgree("a chunk, no entry", false, EMPTY_STTS, EMPTY_STSC, EMPTY_STSZ, STCO);
        dueAgree("a chunk of co64, no entry", false, EMPTY_STTS, EMPTY_STSC, EMPTY_STSZ, box("co64", n4(0, 1), n8(8)));
        dueAgree("a chunk and samples, no entry", false, STTS, EMPTY_STSC, STSZ, STCO);
    }

    private static void chunksMeetStsz() {
        dueAgree("one fewer", false, STTS, box("stsc", n4(0, 1, 1, 1, 1)), STSZ, STCO);
        dueAgree("one more", false, STTS, box("stsc", n4(0, 1, 1, 3, 1)), STSZ, STCO);
        dueAgree("a chunk more", false, STTS, STSC, STSZ, box("stco", n4(0, 2, 8, 8)));
        dueAgree("no chunks", false, STTS, EMPTY_STSC, STSZ, EMPTY_STCO);
        dueAgree("no samples", false, EMPTY_STTS, STSC, EMPTY_STSZ, STCO);
        dueAgree("the most", false, STTS, box("stsc", n4(0, 1, 1, MOST, 1)), STSZ, STCO);
        // 2 * 2147483647 + 4: as 4 bytes it would be 2.
        dueAgree("wrapped round", false, STTS, box("stsc", n4(0, 2, 1, MOST, 1, 3, 4, 1)), STSZ,
            box("stco", n4(0, 3, 8, 8, 8)));
        dueAgree("16 chunks of the most", false, STTS, box("stsc", n4(0, 1, 1, MOST, 1)), STSZ,
            box("stco", n4(0, 16), n4(new long[16])));
        byte[] stts = box("stts", n4(0, 1, 16, 1));
        byte[] stsz = box("stsz", n4(0, 1, 16));
        byte[] three = box("stco", n4(0, 3, 8, 8, 8));
        dueAgree("5, 5, 6", true, stts, box("stsc", n4(0, 2, 1, 5, 1, 3, 6, 1)), stsz, three);
        dueAgree("5, 5, 5", false, stts, box("stsc", n4(0, 1, 1, 5, 1)), stsz, three);
        dueAgree("5, 6, 6", false, stts, box("stsc", n4(0, 2, 1, 5, 1, 2, 6, 1)), stsz, three);
    }

    private static void whereSamplesBegin() {
        // Two chunks, the second one before the first in the file; three samples each, one of them without bytes.
        ReelOfBoxes x = loaded(withTables(box("stts", n4(0, 1, 6, 1)), box("stsc", n4(0, 1, 1, 3, 1)),
            box("stsz", n4(0, 0, 6, 1, 2, 3, 2, 0, 1)), box("stco", n4(0, 2, 16, 8))));
        due("read()", x.read(), 0);
        long[] bytes = {0x09, 0x0b0a, 0x0e0d0c, 0x0201, 0, 0x03};
        for (int i = 0; i < 6; i++) {
            due("bytes(0, " + i + ")", x.bytes(0, i), bytes[i]);
        }
        ReelOfBoxes y = loaded(withTables(STTS, box("stsc", n4(0, 1, 1, 1, 1)), box("stsz", n4(0, 8, 2)),
            box("stco", n4(0, 2, 8, 12))));
        due("overlapping: read()", y.read(), 0);
        due("overlapping: bytes(0, 0)", y.bytes(0, 0), 0x0807060504030201L);
        due("overlapping: bytes(0, 1)", y.bytes(0, 1), 0x0c0b0a0908070605L);
    }

    private static void dueInside(String what, byte[] stsz, long begin, boolean isInside) {
        byte[][] places = {box("stco", n4(0, 1, begin)), box("co64", n4(0, 1), n8(begin))};
        for (byte[] place : places) {
            dueFault(what + " at " + begin, withTables(STTS, STSC, stsz, place), isInside ? 0 : 7,
                isInside ? NONE : AT_STSZ + stsz.length);
        }
    }

    private static void withinMdat() {
        // The content of mdat is bytes 8 .. 23.
        byte[] all = box("stsz", n4(0, 8, 2));
        dueInside("all of it", all, 8, true);
        dueInside("a byte before", all, 7, false);
        dueInside("a byte behind", all, 9, false);
        byte[] two = box("stsz", n4(0, 1, 2));
        for (int begin = 0; begin < 30; begin++) {
            dueInside("two bytes", two, begin, begin >= 8 && begin <= 22);
        }
        for (long begin : new long[] {1199, 1200, MOST - 2, MOST - 1, MOST}) {
            dueInside("far behind", two, begin, false);
        }
        // moov behind mdat is in the file, but no content of mdat; so is another box.
        dueFault("in an empty mdat", join(moovOfOne(1, PLACES_OF_ONE + 20), EMPTY_MDAT, box("free", n8(0))), 7, PLACES_OF_ONE);
        dueFault("behind an empty mdat", join(moovOfOne(1, PLACES_OF_ONE + 28), EMPTY_MDAT, box("free", n8(0))), 7,
            PLACES_OF_ONE);
        dueFault("in another box", join(moovOfOne(1, PLACES_OF_ONE + 36), EMPTY_MDAT, box("free", n8(0))), 7, PLACES_OF_ONE);
    }

    /** Puts a number where each of a table's numbers stands, one at a time, but for how many there are. */
    private static void dueTooMuch(int which, long number, int... places) {
        for (int place : places) {
            byte[] content = rightContent(which);
            System.arraycopy(wideNumber(number, 4), 0, content, place, 4);
            dueTable("number at " + place + " is " + number, which, content, 5);
        }
    }

    private static void tooMuchEverywhere() {
        for (long number : TOO_MUCH) {
            dueTooMuch(0, number, 0, 8, 12);
            dueTooMuch(1, number, 0, 8, 12, 16);
            dueTooMuch(2, number, 0, 12, 16);
            dueTooMuch(3, number, 0, 8);
            dueTooMuch(4, number, 0, 8);
            dueTable("size for all is " + number, 2, n4(0, number, 2), 5);
            dueTable("how many, with a size for all, is " + number, 2, n4(0, 1, number), 5);
        }
        for (long number : TOO_MUCH_WIDE) {
            dueTable("place is " + number, 4, join(n4(0, 1), n8(number)), 5);
            dueTable("second place is " + number, 4, join(n4(0, 2), n8(8, number)), 5);
        }
        // The largest that is not too much is wrong for other reasons, or none.
        dueTable("largest row", 0, n4(0, 1, MOST, 10), 6);
        dueTable("largest duration", 0, n4(0, 1, 2, MOST), 0);
        dueTable("largest number of samples", 1, n4(0, 1, 1, MOST, 1), 6);
        dueTable("largest size", 2, n4(0, 0, 2, 2, MOST), 6);
        dueTable("largest size for all", 2, n4(0, MOST, 2), 6);
        dueTable("largest how many", 2, n4(0, 1, MOST), 6);
        dueTable("largest place", 3, n4(0, 1, MOST), 7);
        dueTable("largest place", 4, join(n4(0, 1), n8(MOST)), 7);
    }

    // ---- faults 1 to 3 ----

    private static void firstFault() {
        dueGood("a good file", withTables(STTS, STSC, STSZ, STCO));
        byte[] outside = box("stco", n4(0, 1, 0));
        byte[] shortStts = box("stts", n4(0, 0));
        byte[] badStsc = box("stsc", n4(0, 1, 1, 2, 2));
        byte[] longStsz = box("stsz", n4(0, 0, 2, 2, 3, 4));
        // From the last fault to the first, each told in place of those behind it.
        dueFault("7", withTables(STTS, STSC, STSZ, outside), 7, AT_STCO);
        dueFault("6 of 6, 7", withTables(shortStts, STSC, STSZ, outside), 6, 40);
        dueFault("5 of 5, 6, 7", withTables(shortStts, badStsc, STSZ, outside), 5, AT_STSC - 8);
        dueFault("4 of 4, 6, 7", withTables(shortStts, STSC, longStsz, outside), 4, AT_STSZ - 8);
        dueFault("3 of 3 to 7", join(box("moov", box("trak", box("stbl", shortStts, badStsc, longStsz, outside)))), 3, 0);
        dueFault("2 of 2 to 7", join(box("moov", box("trak", box("stbl", shortStts, badStsc, longStsz, outside))),
            EMPTY_MDAT, EMPTY_MDAT), 2, 24 + 16 + 28 + 32 + 20 + 8);
        dueFault("1 of 1 to 7", join(box("moov", box("trak", box("stbl", shortStts, badStsc, longStsz, outside))),
            raw(0)), 1, 24 + 16 + 28 + 32 + 20);
    }

    private static void goneIntoBeforeTheNext() {
        byte[] bad = sized(7, "free");
        dueFault("in moov, and behind it", join(box("moov", bad), bad), 1, 8);
        dueFault("in trak, and behind it", join(box("moov", box("trak", bad), bad), bad), 1, 16);
        dueFault("in stbl, and behind it", join(box("moov", box("trak", box("stbl", bad), bad), bad), bad), 1, 24);
        dueFault("behind stbl in trak", join(box("moov", box("trak", EMPTY_STBL, bad), bad), bad), 1, 16 + EMPTY_STBL.length);
        dueFault("behind trak in moov", join(box("moov", EMPTY_TRAK, bad), bad), 1, 8 + EMPTY_TRAK.length);
        dueFault("behind moov", join(box("moov", EMPTY_TRAK), bad), 1, 8 + EMPTY_TRAK.length);
        dueFault("in the second trak", join(box("moov", EMPTY_TRAK, box("trak", bad)), bad), 1, 16 + EMPTY_TRAK.length);
        dueFault("before moov", join(EMPTY_MDAT, bad, box("moov", bad)), 1, 8);
        dueFault("a moov that does not fit is not gone into", join(EMPTY_MDAT, sized(17, "moov", bad)), 1, 8);
        dueFault("a trak that does not fit is not gone into", join(EMPTY_MDAT, box("moov", sized(17, "trak", bad))), 1, 16);
    }

    private static void secondInTheFile() {
        byte[] others = box("free", raw(1));
        dueFault("moov", join(EMPTY_MOOV, others, EMPTY_MOOV, EMPTY_MDAT), 2, 17);
        dueFault("moov, at once", join(EMPTY_MOOV, EMPTY_MOOV, EMPTY_MDAT), 2, 8);
        dueFault("a wide moov", join(EMPTY_MOOV, EMPTY_MDAT, wide("moov")), 2, 16);
        dueFault("mdat", join(EMPTY_MDAT, others, EMPTY_MDAT, EMPTY_MOOV), 2, 17);
        dueFault("mdat, at once", join(EMPTY_MDAT, EMPTY_MDAT, EMPTY_MOOV), 2, 8);
        dueFault("a wide mdat", join(EMPTY_MOOV, EMPTY_MDAT, wide("mdat")), 2, 16);
        dueFault("a second moov is not gone into", join(EMPTY_MOOV, box("moov", raw(1)), EMPTY_MDAT), 2, 8);
        dueFault("one that does not fit", join(EMPTY_MOOV, EMPTY_MDAT, sized(9, "mdat")), 1, 16);
    }

    private static void secondStbl() {
        int second = 16 + EMPTY_STBL.length;
        dueFault("at once", join(box("moov", box("trak", EMPTY_STBL, EMPTY_STBL)), EMPTY_MDAT), 2, second);
        dueFault("later", join(box("moov", box("trak", EMPTY_STBL, box("free"), EMPTY_STBL)), EMPTY_MDAT), 2, second + 8);
        dueFault("not gone into", join(box("moov", box("trak", EMPTY_STBL, box("stbl", raw(1)))), EMPTY_MDAT), 2, second);
        dueFault("in the second trak", join(box("moov", EMPTY_TRAK, box("trak", EMPTY_STBL, EMPTY_STBL)), EMPTY_MDAT), 2,
            second + EMPTY_TRAK.length);
        dueGood("of another trak", join(box("moov", EMPTY_TRAK, EMPTY_TRAK, EMPTY_TRAK), EMPTY_MDAT));
    }

    private static void secondTable() {
        byte[][] tables = {EMPTY_STTS, EMPTY_STSC, EMPTY_STSZ, EMPTY_STCO, EMPTY_CO64};
        for (int which = 0; which < 5; which++) {
            byte[] table = tables[which];
            int second = 24 + table.length;
            dueFault(TYPES[which] + " at once", withStbl(table, table), 2, second);
            dueFault(TYPES[which] + " later", withStbl(table, box("free"), table), 2, second + 8);
            dueFault(TYPES[which] + ", empty", withStbl(table, box(TYPES[which])), 2, second);
            dueFault(TYPES[which] + ", the first one empty", withStbl(box(TYPES[which]), table), 2, 32);
            dueFault(TYPES[which] + " in the second trak", join(box("moov", EMPTY_TRAK, box("trak", box("stbl", table, table))),
                EMPTY_MDAT), 2, second + EMPTY_TRAK.length);
        }
        dueFault("co64 behind stco", withStbl(EMPTY_STCO, EMPTY_CO64), 2, 40);
        dueFault("stco behind co64", withStbl(EMPTY_CO64, EMPTY_STCO), 2, 40);
    }

    private static void fourthTrak() {
        byte[] three = join(EMPTY_TRAK, EMPTY_TRAK, EMPTY_TRAK);
        dueGood("three", join(box("moov", three), EMPTY_MDAT));
        dueFault("four", join(box("moov", three, EMPTY_TRAK), EMPTY_MDAT), 2, 8 + three.length);
        dueFault("four, another between", join(box("moov", three, box("free"), EMPTY_TRAK), EMPTY_MDAT), 2, 16 + three.length);
        dueFault("not gone into", join(box("moov", three, box("trak", raw(1))), EMPTY_MDAT), 2, 8 + three.length);
        dueFault("an empty one", join(box("moov", three, box("trak")), EMPTY_MDAT), 2, 8 + three.length);
        dueFault("one that does not fit", join(box("moov", three, sized(9, "trak")), EMPTY_MDAT), 1, 8 + three.length);
        dueFault("five", join(box("moov", three, EMPTY_TRAK, EMPTY_TRAK), EMPTY_MDAT), 2, 8 + three.length);
    }

    private static void missing() {
        dueFault("nothing", raw(), 3, 0);
        dueFault("moov", join(box("free"), EMPTY_MDAT), 3, 0);
        dueFault("mdat", join(box("free"), EMPTY_MOOV), 3, 0);
        dueFault("stbl", join(EMPTY_MDAT, box("moov", box("free"), box("trak", box("free")))), 3, 24);
        dueFault("stbl of the last trak", join(box("moov", EMPTY_TRAK, EMPTY_TRAK, box("trak")), EMPTY_MDAT), 3,
            8 + 2 * EMPTY_TRAK.length);
        dueFault("all tables", join(EMPTY_MDAT, box("moov", box("trak", box("free"), box("stbl")))), 3, 32);
        byte[][] tables = {EMPTY_STTS, EMPTY_STSC, EMPTY_STSZ, EMPTY_STCO};
        for (int without = 0; without < 4; without++) {
            byte[][] some = tables.clone();
            some[without] = raw();
            dueFault("a table", withStbl(some), 3, 16);
            dueFault("a table of the second trak", join(box("moov", EMPTY_TRAK, box("trak", box("stbl", some))), EMPTY_MDAT), 3,
                16 + EMPTY_TRAK.length);
        }
        dueGood("nothing must be in moov", join(EMPTY_MOOV, EMPTY_MDAT));
    }

    private static void asTheyAreComeTo() {
        byte[] noStbl = box("trak");
        byte[] noTables = box("trak", box("stbl"));
        byte[] twoStts = box("trak", box("stbl", EMPTY_STTS, EMPTY_STTS));
        byte[] unfit = box("trak", raw(0));
        byte[][] traks = {noStbl, noTables, twoStts, unfit};
        int[] faults = {3, 3, 2, 1};
        int[] places = {8, 16, 40, 16};
        for (int first = 0; first < 4; first++) {
            for (int second = 0; second < 4; second++) {
                String what = "trak " + first + " before " + second;
                dueFault(what, join(box("moov", traks[first], traks[second]), raw(0)), faults[first], places[first]);
                dueFault(what + ", behind a good one", join(box("moov", EMPTY_TRAK, traks[first], traks[second]), raw(0)),
                    faults[first], places[first] + EMPTY_TRAK.length);
            }
            dueFault("trak " + first + " before a second moov", join(box("moov", traks[first]), EMPTY_MOOV), faults[first],
                places[first]);
            dueFault("a second mdat before trak " + first, join(EMPTY_MDAT, EMPTY_MDAT, box("moov", traks[first])), 2, 8);
        }
        // A stbl ends before what is behind it in its trak, a trak before what is behind it in moov.
        dueFault("a missing table before a second stbl", join(box("moov", box("trak", box("stbl"), box("stbl")))), 3, 16);
        dueFault("a missing table before a rest", join(box("moov", box("trak", box("stbl"), raw(0)))), 3, 16);
        dueFault("a rest of a trak before its missing stbl", join(box("moov", box("trak", raw(0)))), 1, 16);
        dueFault("a second table before a missing one", withStbl(EMPTY_STTS, EMPTY_STTS, EMPTY_STSC), 2, 40);
        dueFault("a rest of a stbl before its missing table", withStbl(EMPTY_STTS, raw(0)), 1, 40);
        dueFault("a missing stbl before a fourth trak", join(box("moov", EMPTY_TRAK, EMPTY_TRAK, noStbl, EMPTY_TRAK)), 3,
            8 + 2 * EMPTY_TRAK.length);
        dueFault("a rest of the file before its missing mdat", join(EMPTY_MOOV, raw(0)), 1, 8);
        dueFault("a second moov before a missing mdat", join(EMPTY_MOOV, EMPTY_MOOV), 2, 8);
    }

    private static void countOnlyWhereLookedFor() {
        byte[] bad = raw(1, 2, 3);
        String[][] elsewhere = {
            {"trak", "stbl", "stts", "stsc", "stsz", "stco", "co64"},
            {"moov", "mdat", "stbl", "stts", "stsc", "stsz", "stco", "co64"},
            {"moov", "mdat", "trak", "stts", "stsc", "stsz", "stco", "co64"},
            {"moov", "mdat", "trak", "stbl"},
        };
        for (int level = 0; level < 4; level++) {
            for (String type : elsewhere[level]) {
                byte[] other = box(type, bad);
                dueGood(type + " on level " + level, withRest(level, other));
                dueGood("four " + type + " on level " + level, withRest(level, join(other, other, other, other)));
            }
        }
        dueFault("moov in a box", join(box("free", EMPTY_MOOV), EMPTY_MDAT), 3, 0);
        dueFault("mdat in moov", box("moov", EMPTY_MDAT), 3, 0);
        dueFault("stbl in moov", join(box("moov", box("trak"), EMPTY_STBL), EMPTY_MDAT), 3, 8);
        dueFault("stbl in stbl", withStbl(EMPTY_STBL), 3, 16);
        dueFault("tables in trak", join(box("moov", box("trak", TABLES, box("stbl"))), EMPTY_MDAT), 3, 16 + TABLES.length);
        ReelOfBoxes x = loaded(join(EMPTY_TRAK, EMPTY_MOOV, EMPTY_TRAK, EMPTY_MDAT));
        due("trak in the file: read()", x.read(), 0);
        due("trak in the file: tracks()", x.tracks(), 0);
        x = loaded(join(box("moov", box("trak", EMPTY_TRAK, EMPTY_STBL)), EMPTY_MDAT));
        due("trak in trak: read()", x.read(), 0);
        due("trak in trak: tracks()", x.tracks(), 1);
        dueFault("mdat in moov holds no samples", join(box("moov", box("mdat", n8(0)), box("trak", box("stbl", ONE_STTS,
            ONE_STSC, box("stsz", n4(0, 1, 1)), box("stco", n4(0, 1, 16))))), EMPTY_MDAT), 7, 16 + PLACES_OF_ONE);
    }

    // ---- faults 4 to 7 ----

    private static byte[] shortTable(int which) {
        return box(TYPES[which]);
    }

    private static byte[] badTable(int which) {
        byte[] content = rightContent(which);
        content[3] = 1;
        return box(TYPES[which], content);
    }

    /** The place of table i when these stand one behind the other from a place on. */
    private static int placeOf(byte[][] tables, int i, int from) {
        int place = from;
        for (int k = 0; k < i; k++) {
            place += tables[k].length;
        }
        return place;
    }

    private static void tableByTable() {
        for (int first = 0; first < 4; first++) {
            for (int second = first + 1; second < 4; second++) {
                byte[][] right = {STTS, STSC, STSZ, STCO};
                byte[][] pairs = {shortTable(first), badTable(second), badTable(first), shortTable(second)};
                for (int k = 0; k < 2; k++) {
                    byte[][] tables = right.clone();
                    tables[first] = pairs[2 * k];
                    tables[second] = pairs[2 * k + 1];
                    dueFault(TYPES[first] + " before " + TYPES[second], withTables(tables), 4 + k,
                        placeOf(tables, first, AT_STTS));
                    // The order is not that in which they stand.
                    byte[][] turned = {tables[3], tables[2], tables[1], tables[0]};
                    dueFault(TYPES[first] + " before " + TYPES[second] + ", turned", withTables(turned), 4 + k,
                        placeOf(turned, 3 - first, AT_STTS));
                }
            }
        }
        byte[] good = box("trak", box("stbl", STTS, STSC, STSZ, STCO));
        byte[] lastOfFirst = box("trak", box("stbl", STTS, STSC, STSZ, badTable(3)));
        byte[] lastOfFirstWide = box("trak", box("stbl", STTS, STSC, STSZ, badTable(4)));
        byte[] firstOfSecond = box("trak", box("stbl", shortTable(0), STSC, STSZ, STCO));
        dueFault("track 0 before 1", join(DATA, box("moov", lastOfFirst, firstOfSecond)), 5, AT_STCO);
        dueFault("track 0 before 1, co64", join(DATA, box("moov", lastOfFirstWide, firstOfSecond)), 5, AT_STCO);
        dueFault("track 1 before 2", join(DATA, box("moov", good, lastOfFirst, firstOfSecond)), 5, AT_STCO + good.length);
        dueFault("track 2", join(DATA, box("moov", good, good, firstOfSecond)), 4, AT_STTS + 2 * good.length);
    }

    private static void tooShort() {
        int[] heads = {8, 8, 12, 8, 8};
        for (int which = 0; which < 5; which++) {
            byte[] right = rightContent(which);
            for (int n = 0; n < right.length; n++) {
                dueTable("the first " + n + " bytes", which, Arrays.copyOf(right, n), 4);
            }
            for (int n = 0; n < heads[which]; n++) {
                dueTable(n + " zeros", which, new byte[n], 4);
            }
            dueTable("all " + right.length + " bytes", which, right, 0);
            // One more than there are, and so many that their bytes would wrap round.
            int howMany = heads[which] - 4;
            for (long count : new long[] {0x20000000L, 0x40000000L, 0x80000000L, 0xc0000000L, 0xe0000000L, 0xfffffffeL}) {
                for (int more = 0; more < 2; more++) {
                    byte[] content = right.clone();
                    long told = count + more + (which == 2 ? 1 : 0);
                    System.arraycopy(wideNumber(told, 4), 0, content, howMany, 4);
                    dueTable("how many is " + told, which, content, 4);
                }
            }
            byte[] content = right.clone();
            content[howMany + 3]++;
            dueTable("one more told", which, content, 4);
        }
    }

    private static void tooLong() {
        for (int which = 0; which < 5; which++) {
            for (int n = 1; n <= 24; n++) {
                dueTable(n + " bytes more", which, join(rightContent(which), new byte[n]), 4);
            }
            byte[] content = rightContent(which);
            content[which == 2 ? 11 : 7]--;
            dueTable("one fewer told", which, content, 4);
        }
        for (int n = 1; n <= 12; n++) {
            dueTable(n + " bytes more behind a size for all", 2, join(n4(0, 2, 2), new byte[n]), 4);
            dueFault(n + " bytes more in an empty stts", withTables(box("stts", n4(0, 0), new byte[n]), STSC, STSZ, STCO), 4,
                AT_STTS);
        }
    }

    private static void byItself() {
        dueTable("the zero", 0, n4(1, 1, 2, 10), 5);
        dueTable("too much", 0, n4(0, 1, 2, MOST + 1), 5);
        dueTable("0 samples", 0, n4(0, 1, 0, 10), 5);
        dueTable("0 samples", 1, n4(0, 1, 1, 0, 1), 5);
        dueTable("first chunk", 1, n4(0, 1, 2, 2, 1), 5);
        dueTable("what must be 1", 1, n4(0, 1, 1, 2, 0), 5);
        dueTable("the zero", 2, n4(1, 0, 2, 2, 3), 5);
        dueTable("too much", 2, n4(0, 0, 2, 2, MOST + 1), 5);
        dueTable("the zero", 3, n4(1, 1, 8), 5);
        dueTable("too much", 3, n4(0, 1, MOST + 1), 5);
        dueTable("the zero", 4, join(n4(1, 1), n8(8)), 5);
        dueTable("too much", 4, join(n4(0, 1), n8(MOST + 1)), 5);
        // Not by itself: these are the tables' agreement.
        dueTable("more samples than stsz", 0, n4(0, 1, 3, 10), 6);
        dueTable("more samples than there are", 1, n4(0, 1, 1, 3, 1), 6);
        dueTable("an entry above the chunks", 1, n4(0, 2, 1, 2, 1, 2, 2, 1), 6);
        dueTable("9 bytes", 2, n4(0, 0, 2, 2, 9), 6);
        dueTable("a place of 0", 3, n4(0, 1, 0), 7);
        dueTable("0 entries", 0, n4(0, 0), 6);
    }

    private static void fourBeforeFive() {
        for (int which = 0; which < 5; which++) {
            byte[] content = rightContent(which);
            content[0] = 1;
            dueTable("a byte more, and no zero", which, join(content, raw(0)), 4);
            dueTable("a byte fewer, and no zero", which, Arrays.copyOf(content, content.length - 1), 4);
            dueTable("only 4 bytes, and no zero", which, Arrays.copyOf(content, 4), 4);
            dueTable("no zero", which, content, 5);
        }
        dueTable("an entry more, and 0 samples", 0, n4(0, 1, 0, 10, 1, 1), 4);
        dueTable("an entry fewer, and 0 samples", 1, n4(0, 2, 1, 0, 0), 4);
        dueTable("how many is too much", 0, n4(0, MOST + 1, 2, 10), 4);
        dueTable("how many is too much, without entries", 0, n4(0, MOST + 1), 4);
        dueTable("a size too much, and sizes", 2, n4(0, MOST + 1, 2, 2, 3), 4);
    }

    private static final byte[] GOOD_TRAK = box("trak", box("stbl", STTS, STSC, STSZ, STCO));
    private static final byte[] OUTSIDE_TRAK = box("trak", box("stbl", STTS, STSC, STSZ, box("stco", n4(0, 1, 20))));
    private static final byte[] AGREELESS_TRAK =
        box("trak", box("free"), box("stbl", STTS, STSC, box("stsz", n4(0, 0, 1, 1)), STCO));

    private static void agreementTrackByTrack() {
        dueFault("track 0", join(DATA, box("moov", AGREELESS_TRAK)), 6, 48);
        dueFault("track 0 before 1", join(DATA, box("moov", AGREELESS_TRAK, AGREELESS_TRAK)), 6, 48);
        dueFault("track 1", join(DATA, box("moov", GOOD_TRAK, AGREELESS_TRAK, AGREELESS_TRAK)), 6, 48 + GOOD_TRAK.length);
        dueFault("track 2", join(DATA, box("moov", GOOD_TRAK, GOOD_TRAK, AGREELESS_TRAK)), 6, 48 + 2 * GOOD_TRAK.length);
        dueFault("6 of track 1 before 7 of track 0", join(DATA, box("moov", OUTSIDE_TRAK, AGREELESS_TRAK)), 6,
            48 + OUTSIDE_TRAK.length);
        byte[] bad = box("trak", box("stbl", badTable(0), STSC, STSZ, STCO));
        dueFault("5 of track 2 before 6 of track 0", join(DATA, box("moov", AGREELESS_TRAK, GOOD_TRAK, bad)), 5,
            AT_STTS + AGREELESS_TRAK.length + GOOD_TRAK.length);
        byte[] tooShort = box("trak", box("stbl", STTS, STSC, STSZ, shortTable(4)));
        dueFault("4 of track 1 before 6 of track 0", join(DATA, box("moov", AGREELESS_TRAK, tooShort)), 4,
            AT_STCO + AGREELESS_TRAK.length);
    }

    private static void mdatTrackByTrack() {
        byte[] wideOutside = box("trak", box("stbl", STTS, STSC, STSZ, box("co64", n4(0, 1), n8(20))));
        dueFault("track 0", join(DATA, box("moov", OUTSIDE_TRAK)), 7, AT_STCO);
        dueFault("track 0, co64", join(DATA, box("moov", wideOutside)), 7, AT_STCO);
        dueFault("track 0 before 1", join(DATA, box("moov", OUTSIDE_TRAK, OUTSIDE_TRAK)), 7, AT_STCO);
        dueFault("track 1", join(DATA, box("moov", GOOD_TRAK, OUTSIDE_TRAK, wideOutside)), 7, AT_STCO + GOOD_TRAK.length);
        dueFault("track 2", join(DATA, box("moov", GOOD_TRAK, GOOD_TRAK, wideOutside)), 7, AT_STCO + 2 * GOOD_TRAK.length);
        byte[] turned = box("trak", box("stbl", box("free"), box("stco", n4(0, 1, 20)), STSZ, STSC, STTS));
        dueFault("wherever stco stands", join(DATA, box("moov", turned)), 7, AT_STTS + 8);
        byte[] twoChunks = box("stsc", n4(0, 1, 1, 1, 1));
        dueFault("the last chunk only", withTables(STTS, twoChunks, STSZ, box("stco", n4(0, 2, 8, 22))), 7, AT_STCO);
        dueFault("the first chunk only", withTables(STTS, twoChunks, STSZ, box("stco", n4(0, 2, 7, 8))), 7, AT_STCO);
        dueFault("the last sample of a chunk only", withTables(STTS, STSC, STSZ, box("stco", n4(0, 1, 20))), 7, AT_STCO);
    }

    private static void withoutBytes() {
        byte[] none = box("stsz", n4(0, 0, 2, 0, 0));
        for (long begin : new long[] {0, 7, 8, 23, 24, 1199, 1200, MOST}) {
            dueInside("no bytes", none, begin, true);
        }
        byte[] oneBehind = box("stsz", n4(0, 0, 2, 0, 1));
        dueInside("none, then one", oneBehind, 7, false);
        dueInside("none, then one", oneBehind, 8, true);
        dueInside("none, then one", oneBehind, 23, true);
        dueInside("none, then one", oneBehind, 24, false);
        byte[] oneBefore = box("stsz", n4(0, 0, 2, 1, 0));
        dueInside("one, then none behind the end", oneBefore, 23, true);
        dueInside("one, then none", oneBefore, 24, false);
        dueGood("in an empty mdat", join(box("moov", trakOf(16, 1)), EMPTY_MDAT));
        ReelOfBoxes x = loaded(withTables(STTS, STSC, none, box("stco", n4(0, 1, MOST))));
        due("read()", x.read(), 0);
        due("size(0, 1)", x.size(0, 1), 0);
        due("bytes(0, 1)", x.bytes(0, 1), 0);
    }
}
