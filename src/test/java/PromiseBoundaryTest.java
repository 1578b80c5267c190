import java.util.Arrays;

/** A test of its own for each sentence of the promises 1 to 17 that names a boundary case. */
public final class PromiseBoundaryTest extends BoxTest {
    private static final int MOST = Integer.MAX_VALUE;
    private static final int LEAST = Integer.MIN_VALUE;

    public static void main(String[] args) {
        makingTheReel();
        writing();
        writtenTables();
        reading();
        asking();
        bytesOfTheFile();
        end();
    }

    private static void makingTheReel() {
        sentence("An object is used for at most 512 calls after it has been made", PromiseBoundaryTest::lastCalls);
        sentence("1: An empty reel, an empty file.", PromiseBoundaryTest::newObject);
        sentence("2: Adds a track without samples to the reel.", PromiseBoundaryTest::trackWithoutSamples);
        sentence("2: Answers its number; NONE when there are 3.", PromiseBoundaryTest::trackNumbers);
        sentence("3: Adds a sample to a track: n bytes, the lowest of the long first.", PromiseBoundaryTest::lowestFirst);
        sentence("3: Answers its number", PromiseBoundaryTest::sampleNumbers);
        sentence("3: NONE when there is no such track", PromiseBoundaryTest::noSuchTrack);
        sentence("3: it has 16", PromiseBoundaryTest::fullTrack);
        sentence("3: duration is below 0", PromiseBoundaryTest::durationBelowZero);
        sentence("3: or n is not 0 .. 8", PromiseBoundaryTest::samplesOfWrongWidth);
        sentence("4: The reel is empty then.", PromiseBoundaryTest::emptyAfterClear);
        sentence("4: Answers how many tracks it had.", PromiseBoundaryTest::tracksThatWereCleared);
    }

    private static void writing() {
        sentence("5: Writes the reel into the file, in place of what it was: a box moov, then a box mdat.",
            PromiseBoundaryTest::inPlaceOfWhatItWas);
        sentence("5: In moov a trak for each track, with a stbl alone, with stts, stsc, stsz and stco",
            PromiseBoundaryTest::trakForEachTrack);
        sentence("5: or co64, if bit 0 of how is set", PromiseBoundaryTest::bitZeroOfHow);
        sentence("5: mdat is wide if bit 1 of how is set.", PromiseBoundaryTest::bitOneOfHow);
        sentence("5: Each chunk of a track has per samples, its last one what is left", PromiseBoundaryTest::chunksOfPerSamples);
        sentence("5: in mdat lie the first chunks of the tracks, by their numbers, then the second ones, and so on.",
            PromiseBoundaryTest::chunksTakeTurns);
        sentence("5: Answers how many bytes the file has", PromiseBoundaryTest::answerOfWrite);
        sentence("5: 0, changing nothing, when per is not 1 .. 16", PromiseBoundaryTest::wrongPer);
        sentence("5: how is not 0 .. 3", PromiseBoundaryTest::wrongHow);
        sentence("5: or it would have more than 1200.", PromiseBoundaryTest::writtenTooLong);
    }

    private static void writtenTables() {
        sentence("5: stts has an entry for each longest row of samples of the same duration", PromiseBoundaryTest::rowsOfStts);
        sentence("5: stsc has an entry for the first chunk", PromiseBoundaryTest::entryForTheFirstChunk);
        sentence("5: and one for the last one, if that has fewer samples (and is not the first)",
            PromiseBoundaryTest::entryForTheLastChunk);
        sentence("5: none when there are no samples", PromiseBoundaryTest::noEntryWithoutSamples);
        sentence("5: stsz always tells 0 and the size of each sample.", PromiseBoundaryTest::sizesAreAlwaysOfEach);
    }

    private static void reading() {
        sentence("6: Reads the file. Answers the fault", PromiseBoundaryTest::answersTheFault);
        sentence("6: 0 when it is good, and its tracks are the reel then.", PromiseBoundaryTest::tracksAreTheReel);
        sentence("7: The place of the fault when read() was called last", PromiseBoundaryTest::placeOfTheLastFault);
        sentence("7: NONE when it was good, or never called.", PromiseBoundaryTest::noPlace);
    }

    private static void asking() {
        sentence("8: How many tracks the reel has.", PromiseBoundaryTest::howManyTracks);
        sentence("9: How many samples a track has; NONE when there is none.", PromiseBoundaryTest::howManySamples);
        sentence("10: How many bytes a sample has; NONE when there is none.", PromiseBoundaryTest::sizes);
        sentence("11: The time of a sample", PromiseBoundaryTest::times);
        sentence("11: of the one behind the last one, how long the track is", PromiseBoundaryTest::timeBehindTheLast);
        sentence("11: NONE when there is none.", PromiseBoundaryTest::noTime);
        sentence("12: The bytes of a sample, the first one the lowest of the long", PromiseBoundaryTest::bytesOfSamples);
        sentence("12: 0 when there is none.", PromiseBoundaryTest::noBytes);
    }

    private static void bytesOfTheFile() {
        sentence("13: How many bytes the file has.", PromiseBoundaryTest::howManyBytes);
        sentence("14: Byte i of the file (0 .. 255); NONE when there is none.", PromiseBoundaryTest::byteOfTheFile);
        sentence("15: Byte i of the file becomes b (its lowest 8 bits).", PromiseBoundaryTest::lowestEightBits);
        sentence("15: Answers true; false when there is none.", PromiseBoundaryTest::nothingToPoke);
        sentence("16: Puts n bytes behind the file, the highest of the lowest n bytes of the long first.",
            PromiseBoundaryTest::highestFirst);
        sentence("16: Answers how many bytes the file has; NONE when n is not 1 .. 8", PromiseBoundaryTest::wrongWidth);
        sentence("16: or it would have more than 1200.", PromiseBoundaryTest::appendedTooMuch);
        sentence("17: Only the first n bytes of the file stay.", PromiseBoundaryTest::firstBytesStay);
        sentence("17: Answers true; false when it has fewer, or n is below 0.", PromiseBoundaryTest::wrongCut);
    }

    // ---- promises 1 to 4 ----

    private static final int[] OUTSIDE = {LEAST, LEAST + 1, -17, -2, -1, 16, 17, 255, 256, 1200, 65536, MOST - 1, MOST};

    /** The last of the 512 calls answer as the first ones do. */
    private static void lastCalls() {
        ReelOfBoxes x = new ReelOfBoxes();
        for (int round = 0; round < 100; round++) {
            due("track()", x.track(), 0);
            due("sample(0, 1, 7, 1)", x.sample(0, 1, 7, 1), 0);
            due("write(1, 0)", x.write(1, 0), 8 + 16 + 24 + 28 + 24 + 20 + 8 + 1);
            due("read()", x.read(), 0);
            due("clear()", x.clear(), 1);
        }
        due("call 501: track()", x.track(), 0);
        due("call 502: track()", x.track(), 1);
        due("call 503: sample(1, 2, -1, 8)", x.sample(1, 2, -1, 8), 0);
        due("call 504: sample(1, -1, -1, 8)", x.sample(1, -1, -1, 8), NONE);
        due("call 505: write(1, 3)", x.write(1, 3), 8 + 16 + 68 + 16 + 24 + 28 + 24 + 24 + 16 + 8);
        due("call 506: append(0, 1)", x.append(0, 1), 233);
        due("call 507: read()", x.read(), 1);
        due("call 508: place()", x.place(), 232);
        due("call 509: cut(232)", x.cut(232), true);
        due("call 510: read()", x.read(), 0);
        due("call 511: bytes(1, 0)", x.bytes(1, 0), -1);
        due("call 512: track()", x.track(), 2);
    }

    private static void newObject() {
        ReelOfBoxes x = new ReelOfBoxes();
        due("tracks()", x.tracks(), 0);
        due("length()", x.length(), 0);
        due("place()", x.place(), NONE);
        for (int t = -1; t <= 3; t++) {
            due("samples(" + t + ")", x.samples(t), NONE);
            due("size(" + t + ", 0)", x.size(t, 0), NONE);
            due("time(" + t + ", 0)", x.time(t, 0), NONE);
            due("bytes(" + t + ", 0)", x.bytes(t, 0), 0);
            due("sample(" + t + ", 0, 0, 0)", x.sample(t, 0, 0, 0), NONE);
        }
        due("at(0)", x.at(0), NONE);
        due("poke(0, 0)", x.poke(0, 0), false);
        due("cut(1)", x.cut(1), false);
        due("cut(0)", x.cut(0), true);
        due("clear()", x.clear(), 0);
        due("track()", x.track(), 0);
        due("another object's tracks()", new ReelOfBoxes().tracks(), 0);
        due("append(0, 1)", new ReelOfBoxes().append(0, 1), 1);
        ReelOfBoxes y = new ReelOfBoxes();
        due("read()", y.read(), 3);
        due("place() then", y.place(), 0);
    }

    private static void trackWithoutSamples() {
        ReelOfBoxes x = new ReelOfBoxes();
        for (int round = 0; round < 3; round++) {
            for (int t = 0; t < 3; t++) {
                x.track();
                due("samples(" + t + ")", x.samples(t), 0);
                due("size(" + t + ", 0)", x.size(t, 0), NONE);
                due("time(" + t + ", 0)", x.time(t, 0), 0);
                due("time(" + t + ", 1)", x.time(t, 1), NONE);
                due("bytes(" + t + ", 0)", x.bytes(t, 0), 0);
                x.sample(t, 5, -1, 8);
                x.sample(t, 5, -1, 8);
            }
            x.clear();
        }
    }

    private static void trackNumbers() {
        ReelOfBoxes x = new ReelOfBoxes();
        for (int t = 0; t < 3; t++) {
            due("track()", x.track(), t);
            due("tracks()", x.tracks(), t + 1);
        }
        for (int more = 0; more < 3; more++) {
            due("track() when there are 3", x.track(), NONE);
            due("tracks() then", x.tracks(), 3);
        }
        load(x, join(box("moov", EMPTY_TRAK, EMPTY_TRAK), EMPTY_MDAT));
        due("read()", x.read(), 0);
        due("track() behind two that were read", x.track(), 2);
        due("track() behind three", x.track(), NONE);
    }

    private static long lowest(long number, int n) {
        long sum = 0;
        for (int i = n - 1; i >= 0; i--) {
            sum = sum * 256 + (number >> (8 * i) & 255);
        }
        return sum;
    }

    private static void lowestFirst() {
        long[] numbers = {0, -1, 0x8877665544332211L, 0x0102030405060708L, Long.MIN_VALUE, Long.MAX_VALUE, 0x80, 0xff00};
        for (long number : numbers) {
            ReelOfBoxes x = new ReelOfBoxes();
            x.track();
            for (int n = 0; n <= 8; n++) {
                due("sample of " + n, x.sample(0, 1, number, n), n);
                due("its size", x.size(0, n), n);
                due("its bytes", x.bytes(0, n), lowest(number, n));
            }
            int length = x.write(16, 0);
            int place = length - 36;
            for (int n = 0; n <= 8; n++) {
                for (int i = 0; i < n; i++) {
                    due("byte " + i + " of " + n, x.at(place), (int) (number >> (8 * i) & 255));
                    place++;
                }
            }
        }
    }

    private static void sampleNumbers() {
        ReelOfBoxes x = new ReelOfBoxes();
        x.track();
        x.track();
        x.track();
        for (int i = 0; i < 16; i++) {
            for (int t = 0; t < 3; t++) {
                due("sample of track " + t, x.sample(t, i, i, 1), i);
            }
        }
    }

    private static void noSuchTrack() {
        for (int tracks = 0; tracks <= 3; tracks++) {
            ReelOfBoxes x = new ReelOfBoxes();
            for (int t = 0; t < tracks; t++) {
                x.track();
            }
            for (int t = tracks; t < 5; t++) {
                due("sample(" + t + ", ..) of " + tracks, x.sample(t, 1, 1, 1), NONE);
            }
            for (int t : OUTSIDE) {
                due("sample(" + t + ", ..) of " + tracks, x.sample(t, 1, 1, 1), NONE);
            }
            for (int t = 0; t < tracks; t++) {
                due("samples(" + t + ")", x.samples(t), 0);
                due("sample(" + t + ", ..)", x.sample(t, 1, 1, 1), 0);
            }
        }
    }

    private static void fullTrack() {
        ReelOfBoxes x = new ReelOfBoxes();
        x.track();
        x.track();
        for (int i = 0; i < 16; i++) {
            due("sample", x.sample(1, 1, i, 8), i);
        }
        due("a 17th", x.sample(1, 1, 1, 1), NONE);
        due("a 17th without bytes", x.sample(1, 0, 0, 0), NONE);
        due("samples(1)", x.samples(1), 16);
        due("time(1, 16)", x.time(1, 16), 16);
        due("sample of the other", x.sample(0, 1, 1, 1), 0);
        due("read of 16 again", x.write(16, 0) > 0 && x.read() == 0, true);
        due("a 17th behind 16 that were read", x.sample(1, 1, 1, 1), NONE);
        due("clear()", x.clear(), 2);
        due("track()", x.track(), 0);
        due("sample after clear", x.sample(0, 1, 1, 1), 0);
    }

    private static void durationBelowZero() {
        ReelOfBoxes x = new ReelOfBoxes();
        x.track();
        for (int duration : new int[] {-1, -2, LEAST, LEAST + 1, -65536}) {
            due("duration " + duration, x.sample(0, duration, 1, 1), NONE);
            due("samples(0)", x.samples(0), 0);
        }
        int i = 0;
        for (int duration : new int[] {0, 1, 65536, MOST - 1, MOST}) {
            due("duration " + duration, x.sample(0, duration, 1, 1), i);
            due("its length", x.time(0, i + 1) - x.time(0, i), duration);
            i++;
        }
    }

    private static void samplesOfWrongWidth() {
        ReelOfBoxes x = new ReelOfBoxes();
        x.track();
        for (int n : new int[] {-1, -8, 9, 10, 16, 64, 256, 264, LEAST, LEAST + 8, MOST}) {
            due("n " + n, x.sample(0, 1, 1, n), NONE);
            due("samples(0)", x.samples(0), 0);
        }
        due("n 0", x.sample(0, 1, 1, 0), 0);
        due("n 8", x.sample(0, 1, 1, 8), 1);
    }

    private static void emptyAfterClear() {
        ReelOfBoxes x = largeReel(384);
        x.append(0x4142, 2);
        x.clear();
        due("tracks()", x.tracks(), 0);
        for (int t = 0; t < 3; t++) {
            due("samples(" + t + ")", x.samples(t), NONE);
            due("size(" + t + ", 0)", x.size(t, 0), NONE);
            due("time(" + t + ", 0)", x.time(t, 0), NONE);
            due("bytes(" + t + ", 0)", x.bytes(t, 0), 0);
            due("sample(" + t + ", 1, 1, 1)", x.sample(t, 1, 1, 1), NONE);
        }
        due("the file's length()", x.length(), 2);
        due("the file's at(1)", x.at(1), 0x42);
        due("write()", x.write(1, 0), 16);
    }

    private static void tracksThatWereCleared() {
        for (int tracks = 0; tracks <= 3; tracks++) {
            ReelOfBoxes x = new ReelOfBoxes();
            for (int t = 0; t < tracks; t++) {
                x.track();
            }
            due("clear() of " + tracks, x.clear(), tracks);
            due("clear() again", x.clear(), 0);
        }
    }

    // ---- promise 5: the boxes ----

    /** Three full tracks, no two durations in a row the same, of so many bytes. */
    private static ReelOfBoxes largeReel(int dataBytes) {
        ReelOfBoxes x = new ReelOfBoxes();
        int left = dataBytes;
        for (int t = 0; t < 3; t++) {
            x.track();
            for (int i = 0; i < 16; i++) {
                int n = Math.min(left, 8);
                x.sample(t, i, -1, n);
                left -= n;
            }
        }
        return x;
    }

    private static void inPlaceOfWhatItWas() {
        ReelOfBoxes x = new ReelOfBoxes();
        for (int i = 0; i < 150; i++) {
            x.append(-1, 8);
        }
        due("write into a full file", x.write(1, 0), 16);
        dueFile("written", x, join(EMPTY_MOOV, EMPTY_MDAT));
        due("append behind it", x.append(0x41, 1), 17);
        due("at(16)", x.at(16), 0x41);
        due("write again", x.write(16, 3), 24);
        dueFile("written again", x, join(EMPTY_MOOV, wide("mdat")));
        ReelOfBoxes y = smallReel();
        due("write into an empty file", y.write(1, 0) > 0, true);
        dueSmallReel("the reel stays", y);
    }

    private static void trakForEachTrack() {
        byte[] traks = raw();
        ReelOfBoxes x = new ReelOfBoxes();
        for (int tracks = 0; tracks <= 3; tracks++) {
            byte[] want = join(box("moov", traks), EMPTY_MDAT);
            due(tracks + " tracks: write", x.write(1, 0), want.length);
            dueFile(tracks + " tracks", x, want);
            if (tracks < 3) {
                x.track();
                traks = join(traks, EMPTY_TRAK);
            }
        }
        due("read()", x.read(), 0);
        due("tracks()", x.tracks(), 3);
    }

    private static byte[] typeAt(ReelOfBoxes x, int box) {
        return raw(x.at(box + 4), x.at(box + 5), x.at(box + 6), x.at(box + 7));
    }

    private static void bitZeroOfHow() {
        // An empty track's places stand behind moov, trak, stbl and three tables.
        int places = 24 + EMPTY_STTS.length + EMPTY_STSC.length + EMPTY_STSZ.length;
        for (int how = 0; how <= 3; how++) {
            ReelOfBoxes x = new ReelOfBoxes();
            x.track();
            x.write(1, how);
            due("type for how " + how, Arrays.equals(typeAt(x, places), text((how & 1) != 0 ? "co64" : "stco")), true);
            ReelOfBoxes y = smallReel();
            due("length for how " + how, y.write(1, how), 24 + 32 + 28 + 28 + 16 + 8 + 8 * (how & 1) + 8 + 4 * (how & 2) + 3);
        }
    }

    private static void bitOneOfHow() {
        for (int how = 0; how <= 3; how++) {
            ReelOfBoxes x = new ReelOfBoxes();
            x.write(1, how);
            dueFile("for how " + how, x, join(EMPTY_MOOV, (how & 2) != 0 ? wide("mdat") : EMPTY_MDAT));
            ReelOfBoxes y = smallReel();
            int length = y.write(16, how);
            byte[] mdat = (how & 2) != 0 ? wide("mdat", raw(2, 1, 3)) : box("mdat", raw(2, 1, 3));
            for (int i = 0; i < mdat.length; i++) {
                due("byte " + i + " of mdat for how " + how, y.at(length - mdat.length + i), mdat[i] & 255);
            }
        }
    }

    /** The file of one track of samples of one byte, 1, 2, .., and duration 7. */
    private static byte[] writtenOf(int samples, int per, long[] stsc) {
        int chunks = (samples + per - 1) / per;
        byte[] stts = samples == 0 ? EMPTY_STTS : box("stts", n4(0, 1, samples, 7));
        long[] sizes = new long[samples];
        Arrays.fill(sizes, 1);
        byte[] tables = join(stts, box("stsc", n4(0, stsc.length / 3), n4(stsc)), box("stsz", n4(0, 0, samples), n4(sizes)));
        int data = 24 + tables.length + 16 + 4 * chunks + 8;
        long[] places = new long[chunks];
        for (int c = 0; c < chunks; c++) {
            places[c] = data + c * per;
        }
        byte[] content = new byte[samples];
        for (int i = 0; i < samples; i++) {
            content[i] = (byte) (i + 1);
        }
        return join(box("moov", box("trak", box("stbl", tables, box("stco", n4(0, chunks), n4(places))))),
            box("mdat", content));
    }

    private static long[] stscOf(int samples, int per) {
        int left = samples % per;
        if (samples == 0) {
            return new long[0];
        }
        if (samples <= per) {
            return new long[] {1, samples, 1};
        }
        return left == 0 ? new long[] {1, per, 1} : new long[] {1, per, 1, samples / per + 1, left, 1};
    }

    private static void dueWritten(int samples, int per, long[] stsc) {
        ReelOfBoxes x = new ReelOfBoxes();
        x.track();
        for (int i = 0; i < samples; i++) {
            x.sample(0, 7, i + 1, 1);
        }
        byte[] want = writtenOf(samples, per, stsc);
        String what = samples + " samples, per " + per;
        due(what, x.write(per, 0), want.length);
        dueFile(what, x, want);
        due(what + ": read()", x.read(), 0);
        due(what + ": samples(0)", x.samples(0), samples);
        for (int i = 0; i < samples; i++) {
            due(what + ": bytes(0, " + i + ")", x.bytes(0, i), i + 1);
        }
    }

    private static void chunksOfPerSamples() {
        for (int samples = 0; samples <= 16; samples++) {
            for (int per = 1; per <= 16; per++) {
                dueWritten(samples, per, stscOf(samples, per));
            }
        }
    }

    private static void chunksTakeTurns() {
        // 1, 0 and 3 chunks of two samples; the last one has one.
        ReelOfBoxes x = new ReelOfBoxes();
        x.track();
        x.track();
        x.track();
        x.sample(0, 1, 0x11, 1);
        for (int i = 0; i < 5; i++) {
            x.sample(2, 1, 0x31 + i, 1);
        }
        dueData("an empty track between", x, 2, 0x11, 0x31, 0x32, 0x33, 0x34, 0x35);
        x.sample(0, 1, 0x1312, 2);
        x.sample(0, 1, 0, 0);
        x.sample(0, 1, 0x14, 1);
        x.sample(1, 1, 0x21, 1);
        dueData("per 2", x, 2, 0x11, 0x12, 0x13, 0x21, 0x31, 0x32, 0x14, 0x33, 0x34, 0x35);
        dueData("per 1", x, 1, 0x11, 0x21, 0x31, 0x12, 0x13, 0x32, 0x33, 0x14, 0x34, 0x35);
        dueData("per 3", x, 3, 0x11, 0x12, 0x13, 0x21, 0x31, 0x32, 0x33, 0x14, 0x34, 0x35);
        dueData("per 16", x, 16, 0x11, 0x12, 0x13, 0x14, 0x21, 0x31, 0x32, 0x33, 0x34, 0x35);
    }

    private static void dueData(String what, ReelOfBoxes x, int per, int... data) {
        for (int how = 0; how <= 3; how++) {
            int length = x.write(per, how);
            for (int i = 0; i < data.length; i++) {
                due(what + ": byte " + i + " of mdat", x.at(length - data.length + i), data[i]);
            }
            due(what + ": the byte before is the head's", x.at(length - data.length - 1), (how & 2) != 0 ? data.length + 16 : 't');
            due(what + ": read()", x.read(), 0);
        }
    }

    private static void answerOfWrite() {
        for (int how = 0; how <= 3; how++) {
            for (int per = 1; per <= 16; per++) {
                ReelOfBoxes x = smallReel();
                x.track();
                int length = x.write(per, how);
                due("length() after write(" + per + ", " + how + ")", x.length(), length);
                due("its last byte", x.at(length - 1), 3);
                due("behind it", x.at(length), NONE);
            }
        }
    }

    private static void wrongPer() {
        for (int how = 0; how <= 3; how++) {
            ReelOfBoxes x = smallReel();
            x.append(0x41424344, 4);
            for (int per : new int[] {LEAST, LEAST + 1, -16, -1, 0, 17, 18, 32, 256, 257, 65537, MOST}) {
                due("write(" + per + ", " + how + ")", x.write(per, how), 0);
                dueFile("then", x, text("ABCD"));
                dueSmallReel("then", x);
            }
            due("write(1, " + how + ")", x.write(1, how) > 0, true);
            due("write(16, " + how + ")", x.write(16, how) > 0, true);
        }
    }

    private static void wrongHow() {
        for (int per : new int[] {1, 2, 16}) {
            ReelOfBoxes x = smallReel();
            x.append(0x41424344, 4);
            for (int how : new int[] {LEAST, LEAST + 1, -4, -2, -1, 4, 5, 7, 8, 256, 257, MOST}) {
                due("write(" + per + ", " + how + ")", x.write(per, how), 0);
                dueFile("then", x, text("ABCD"));
                dueSmallReel("then", x);
            }
            due("write(" + per + ", 0)", x.write(per, 0) > 0, true);
            due("write(" + per + ", 3)", x.write(per, 3) > 0, true);
        }
    }

    private static void writtenTooLong() {
        // A trak: 16 + stts 144 + stsc 28 + stsz 84 + stco 20 or co64 24; moov 8; mdat 8 or 16 and the data.
        int[] without = {8 + 3 * 292 + 8, 8 + 3 * 296 + 8, 8 + 3 * 292 + 16, 8 + 3 * 296 + 16};
        for (int how = 0; how <= 3; how++) {
            int fits = 1200 - without[how];
            due("1199 bytes, how " + how, largeReel(fits - 1).write(16, how), 1199);
            ReelOfBoxes x = largeReel(fits);
            due("1200 bytes, how " + how, x.write(16, how), 1200);
            due("its length()", x.length(), 1200);
            due("its at(1199)", x.at(1199), 255);
            due("its read()", x.read(), 0);
            due("its bytes", x.bytes(2, (fits - 257) / 8), lowest(-1, (fits - 1) % 8 + 1));
            ReelOfBoxes y = largeReel(fits + 1);
            y.append(0x41424344, 4);
            due("1201 bytes, how " + how, y.write(16, how), 0);
            dueFile("then", y, text("ABCD"));
            due("then: tracks()", y.tracks(), 3);
            due("then: samples(2)", y.samples(2), 16);
        }
        // per 1: three trak of 16 + stts 24 + stsc 28 + stsz 20 + 4 n + stco 16 + 4 n: 16 samples 232 each, moov 704.
        ReelOfBoxes z = new ReelOfBoxes();
        for (int t = 0; t < 3; t++) {
            z.track();
            for (int i = 0; i < 16; i++) {
                z.sample(t, 9, -1, 8);
            }
        }
        due("a full reel of one duration, per 1", z.write(1, 0), 704 + 8 + 384);
        due("a full reel of one duration, per 1, wide", z.write(1, 2), 704 + 16 + 384);
        due("a full reel of one duration, per 1, co64", z.write(1, 1), 0);
        due("length() then", z.length(), 704 + 16 + 384);
        due("the largest of all", largeReel(384).write(1, 3), 0);
    }

    // ---- promise 5: the tables ----

    private static void dueRows(int[] durations, long... entries) {
        ReelOfBoxes x = new ReelOfBoxes();
        x.track();
        for (int duration : durations) {
            x.sample(0, duration, 0, 0);
        }
        String what = "rows of " + Arrays.toString(durations);
        due(what + ": write", x.write(16, 0) > 0, true);
        byte[] stts = box("stts", n4(0, entries.length / 2), n4(entries));
        for (int i = 0; i < stts.length; i++) {
            due(what + ": byte " + i + " of stts", x.at(24 + i), stts[i] & 255);
        }
        due(what + ": stsc behind it", Arrays.equals(typeAt(x, 24 + stts.length), text("stsc")), true);
        due(what + ": read()", x.read(), 0);
        long sum = 0;
        for (int i = 0; i < durations.length; i++) {
            due(what + ": time(0, " + i + ")", x.time(0, i), sum);
            sum += durations[i];
        }
        due(what + ": how long it is", x.time(0, durations.length), sum);
    }

    private static void rowsOfStts() {
        dueRows(new int[] {});
        dueRows(new int[] {0}, 1, 0);
        dueRows(new int[] {MOST}, 1, MOST);
        dueRows(new int[] {5, 5}, 2, 5);
        dueRows(new int[] {5, 6}, 1, 5, 1, 6);
        dueRows(new int[] {5, 6, 5}, 1, 5, 1, 6, 1, 5);
        dueRows(new int[] {0, 0, MOST, MOST, 0}, 2, 0, 2, MOST, 1, 0);
        dueRows(new int[] {3, 3, 3, 3, 3, 3, 3, 3, 3, 3, 3, 3, 3, 3, 3, 3}, 16, 3);
        dueRows(new int[] {3, 3, 3, 3, 3, 3, 3, 3, 3, 3, 3, 3, 3, 3, 3, 4}, 15, 3, 1, 4);
        dueRows(new int[] {4, 3, 3, 3, 3, 3, 3, 3, 3, 3, 3, 3, 3, 3, 3, 3}, 1, 4, 15, 3);
        dueRows(new int[] {0, 1, 2, 3, 4, 5, 6, 7, 8, 9, 10, 11, 12, 13, 14, 15},
            1, 0, 1, 1, 1, 2, 1, 3, 1, 4, 1, 5, 1, 6, 1, 7, 1, 8, 1, 9, 1, 10, 1, 11, 1, 12, 1, 13, 1, 14, 1, 15);
        // Of two tracks each has its own rows.
        ReelOfBoxes x = new ReelOfBoxes();
        x.track();
        x.track();
        x.sample(0, 5, 0, 0);
        x.sample(1, 5, 0, 0);
        due("two tracks: write", x.write(1, 0), 8 + 2 * (16 + 24 + 28 + 24 + 20) + 8);
    }

    private static void entryForTheFirstChunk() {
        dueWritten(1, 1, new long[] {1, 1, 1});
        dueWritten(1, 16, new long[] {1, 1, 1});
        dueWritten(5, 16, new long[] {1, 5, 1});
        dueWritten(16, 16, new long[] {1, 16, 1});
        dueWritten(16, 1, new long[] {1, 1, 1});
        dueWritten(16, 8, new long[] {1, 8, 1});
    }

    private static void entryForTheLastChunk() {
        dueWritten(3, 2, new long[] {1, 2, 1, 2, 1, 1});
        dueWritten(4, 2, new long[] {1, 2, 1});
        dueWritten(5, 2, new long[] {1, 2, 1, 3, 1, 1});
        dueWritten(2, 3, new long[] {1, 2, 1});
        dueWritten(3, 3, new long[] {1, 3, 1});
        dueWritten(4, 3, new long[] {1, 3, 1, 2, 1, 1});
        dueWritten(16, 15, new long[] {1, 15, 1, 2, 1, 1});
        dueWritten(16, 3, new long[] {1, 3, 1, 6, 1, 1});
        dueWritten(16, 7, new long[] {1, 7, 1, 3, 2, 1});
        dueWritten(15, 16, new long[] {1, 15, 1});
    }

    private static void noEntryWithoutSamples() {
        for (int per = 1; per <= 16; per++) {
            dueWritten(0, per, new long[] {});
        }
    }

    private static void sizesAreAlwaysOfEach() {
        for (int size = 0; size <= 8; size++) {
            ReelOfBoxes x = new ReelOfBoxes();
            x.track();
            x.sample(0, 1, -1, size);
            x.sample(0, 1, -1, size);
            x.write(16, 0);
            byte[] stsz = box("stsz", n4(0, 0, 2, size, size));
            for (int i = 0; i < stsz.length; i++) {
                due("byte " + i + " of stsz, all of " + size, x.at(24 + 24 + 28 + i), stsz[i] & 255);
            }
            due("read()", x.read(), 0);
            due("size(0, 1)", x.size(0, 1), size);
        }
    }

    // ---- promises 6 and 7 ----

    private static final byte[][] FAULTY = {
        withTables(STTS, STSC, STSZ, STCO), raw(0), join(EMPTY_MOOV, EMPTY_MOOV), EMPTY_MOOV,
        withTables(box("stts"), STSC, STSZ, STCO), withTables(STTS, box("stsc", n4(1, 0)), STSZ, STCO),
        withTables(STTS, STSC, EMPTY_STSZ, STCO), withTables(STTS, STSC, STSZ, box("stco", n4(0, 1, 7))),
    };
    private static final int[] FAULTY_PLACES = {NONE, 0, 8, 0, AT_STTS, AT_STSC, 40, AT_STCO};

    private static void answersTheFault() {
        for (int fault = 0; fault <= 7; fault++) {
            ReelOfBoxes x = smallReel();
            load(x, FAULTY[fault]);
            for (int round = 0; round < 2; round++) {
                due("read() of fault " + fault, x.read(), fault);
                due("length() then", x.length(), FAULTY[fault].length);
                if (fault != 0) {
                    dueSmallReel("after fault " + fault, x);
                }
            }
            dueFile("after fault " + fault, x, FAULTY[fault]);
        }
        // The last track is wrong: the two good ones before it do not come into the reel.
        byte[] good = box("trak", box("stbl", STTS, STSC, STSZ, STCO));
        byte[] outside = box("trak", box("stbl", STTS, STSC, STSZ, box("stco", n4(0, 1, 7))));
        ReelOfBoxes y = smallReel();
        load(y, join(DATA, box("moov", good, good, outside)));
        due("read() of two good tracks and a wrong one", y.read(), 7);
        dueSmallReel("after it", y);
    }

    private static void tracksAreTheReel() {
        ReelOfBoxes x = largeReel(384);
        load(x, withTables(STTS, STSC, STSZ, STCO));
        due("read() over a full reel", x.read(), 0);
        due("tracks()", x.tracks(), 1);
        due("samples(0)", x.samples(0), 2);
        due("samples(1)", x.samples(1), NONE);
        due("bytes(0, 0)", x.bytes(0, 0), 0x0201);
        due("bytes(0, 1)", x.bytes(0, 1), 0x050403);
        due("size(0, 2)", x.size(0, 2), NONE);
        due("time(0, 2)", x.time(0, 2), 20);
        due("sample behind them", x.sample(0, 1, 1, 1), 2);
        due("track behind it", x.track(), 1);
        due("its samples", x.samples(1), 0);
        load(x, join(EMPTY_MOOV, EMPTY_MDAT));
        due("read() of no tracks", x.read(), 0);
        due("tracks() then", x.tracks(), 0);
        due("samples(0) then", x.samples(0), NONE);
        // The reel does not change with the file afterwards.
        ReelOfBoxes y = loaded(withTables(STTS, STSC, STSZ, STCO));
        due("read()", y.read(), 0);
        y.poke(8, 99);
        due("bytes(0, 0) after a poke", y.bytes(0, 0), 0x0201);
        y.cut(0);
        due("bytes(0, 1) after a cut", y.bytes(0, 1), 0x050403);
    }

    private static void placeOfTheLastFault() {
        ReelOfBoxes x = new ReelOfBoxes();
        for (int fault = 1; fault <= 7; fault++) {
            load(x, FAULTY[fault]);
            due("read() of fault " + fault, x.read(), fault);
            due("place()", x.place(), FAULTY_PLACES[fault]);
            due("place() again", x.place(), FAULTY_PLACES[fault]);
        }
        x.cut(0);
        x.clear();
        x.write(1, 0);
        x.track();
        due("place() without another read()", x.place(), FAULTY_PLACES[7]);
        byte[] full = Arrays.copyOf(join(EMPTY_MOOV, EMPTY_MDAT, sized(1183, "free")), 1200);
        dueFault("the last place of a full file", full, 1, 1199);
    }

    private static void noPlace() {
        ReelOfBoxes x = smallReel();
        due("never called", x.place(), NONE);
        x.write(1, 0);
        x.poke(0, 1);
        due("never called, though the file is wrong", x.place(), NONE);
        due("read()", x.read(), 1);
        due("place() of a fault at 0", x.place(), 0);
        x.write(1, 0);
        due("read() of a good file", x.read(), 0);
        due("place() then", x.place(), NONE);
    }

    // ---- promises 8 to 12 ----

    private static void howManyTracks() {
        ReelOfBoxes x = new ReelOfBoxes();
        for (int count = 0; count <= 3; count++) {
            due("tracks()", x.tracks(), count);
            x.track();
        }
        due("tracks() after a fourth", x.tracks(), 3);
        x.clear();
        due("tracks() after clear", x.tracks(), 0);
    }

    private static void howManySamples() {
        ReelOfBoxes x = new ReelOfBoxes();
        x.track();
        x.track();
        for (int count = 0; count <= 16; count++) {
            due("samples(1)", x.samples(1), count);
            due("samples(0)", x.samples(0), 0);
            x.sample(1, 1, 1, 1);
        }
        due("samples(1) after a 17th", x.samples(1), 16);
        due("samples(2)", x.samples(2), NONE);
        for (int t : OUTSIDE) {
            due("samples(" + t + ")", x.samples(t), NONE);
        }
    }

    private static void sizes() {
        ReelOfBoxes x = new ReelOfBoxes();
        x.track();
        x.track();
        for (int i = 0; i < 16; i++) {
            due("size(1, " + i + ") before", x.size(1, i), NONE);
            x.sample(1, 1, 1, i % 9);
            due("size(1, " + i + ")", x.size(1, i), i % 9);
        }
        for (int i : OUTSIDE) {
            due("size(1, " + i + ")", x.size(1, i), NONE);
            due("size(" + i + ", 0)", x.size(i, 0), NONE);
            due("size(" + i + ", " + i + ")", x.size(i, i), NONE);
        }
        due("size(0, 0)", x.size(0, 0), NONE);
        due("size(2, 0)", x.size(2, 0), NONE);
    }

    private static void times() {
        ReelOfBoxes x = new ReelOfBoxes();
        x.track();
        x.track();
        long sum = 0;
        for (int i = 0; i < 16; i++) {
            x.sample(0, 1000, 0, 0);
            x.sample(1, i % 2 == 0 ? MOST : i, 0, 0);
        }
        for (int i = 0; i < 16; i++) {
            due("time(1, " + i + ")", x.time(1, i), sum);
            sum += i % 2 == 0 ? MOST : i;
        }
    }

    private static void timeBehindTheLast() {
        ReelOfBoxes x = new ReelOfBoxes();
        x.track();
        due("of an empty track", x.time(0, 0), 0);
        for (int count = 1; count <= 16; count++) {
            x.sample(0, MOST, 0, 0);
            due("of " + count, x.time(0, count), (long) count * MOST);
            due("behind that", x.time(0, count + 1), NONE);
        }
    }

    private static void noTime() {
        ReelOfBoxes x = new ReelOfBoxes();
        x.track();
        x.track();
        for (int i = 0; i < 15; i++) {
            x.sample(1, 3, 0, 0);
        }
        for (int i : OUTSIDE) {
            due("time(1, " + i + ")", x.time(1, i), NONE);
            due("time(0, " + i + ")", x.time(0, i), NONE);
            due("time(" + i + ", 0)", x.time(i, 0), NONE);
        }
        due("time(0, 1)", x.time(0, 1), NONE);
        due("time(1, 15)", x.time(1, 15), 45);
        due("time(2, 0)", x.time(2, 0), NONE);
        // One sample that lasts nothing: how long the track is is 0, not NONE.
        x.clear();
        x.track();
        x.sample(0, 0, 0, 0);
        due("time(0, 1) of a sample that lasts nothing", x.time(0, 1), 0);
        due("time(0, 2) of it", x.time(0, 2), NONE);
    }

    private static void bytesOfSamples() {
        ReelOfBoxes x = loaded(withTables(box("stts", n4(0, 1, 9, 1)), box("stsc", n4(0, 1, 1, 1, 1)),
            box("stsz", n4(0, 0, 9, 0, 1, 2, 3, 4, 5, 6, 7, 8)), box("stco", n4(0, 9, 8, 8, 8, 8, 8, 8, 8, 8, 8))));
        due("read()", x.read(), 0);
        for (int n = 0; n <= 8; n++) {
            due("bytes(0, " + n + ")", x.bytes(0, n), lowest(0x0807060504030201L, n));
        }
        ReelOfBoxes y = loaded(join(box("mdat", raw(255, 128, 127, 0, 1, 254, 129, 255)), box("moov", box("trak", box("stbl",
            box("stts", n4(0, 1, 1, 1)), box("stsc", n4(0, 1, 1, 1, 1)), box("stsz", n4(0, 8, 1)), STCO)))));
        due("read() of 8", y.read(), 0);
        due("bytes(0, 0) of 8", y.bytes(0, 0), 0xff81fe01007f80ffL);
    }

    private static void noBytes() {
        ReelOfBoxes x = new ReelOfBoxes();
        x.track();
        x.track();
        for (int i = 0; i < 16; i++) {
            due("bytes(1, " + i + ") before", x.bytes(1, i), 0);
            x.sample(1, 1, -1, 8);
            due("bytes(1, " + i + ")", x.bytes(1, i), -1);
        }
        for (int i : OUTSIDE) {
            due("bytes(1, " + i + ")", x.bytes(1, i), 0);
            due("bytes(0, " + i + ")", x.bytes(0, i), 0);
            due("bytes(" + i + ", 0)", x.bytes(i, 0), 0);
        }
        due("bytes(0, 0)", x.bytes(0, 0), 0);
        due("bytes(2, 0)", x.bytes(2, 0), 0);
        // What a longer track held before does not show.
        x.clear();
        x.track();
        x.track();
        due("bytes(1, 0) after clear", x.bytes(1, 0), 0);
        due("sample without bytes", x.sample(1, 1, -1, 0), 0);
        due("its bytes", x.bytes(1, 0), 0);
    }

    // ---- promises 13 to 17 ----

    private static void howManyBytes() {
        ReelOfBoxes x = new ReelOfBoxes();
        due("length() of an empty file", x.length(), 0);
        for (int i = 1; i <= 150; i++) {
            x.append(0, 8);
        }
        due("length() of a full file", x.length(), 1200);
        x.append(0, 1);
        due("length() after a refused append", x.length(), 1200);
        x.cut(1199);
        due("length() after a cut", x.length(), 1199);
        x.write(1, 0);
        due("length() after write", x.length(), 16);
        x.cut(0);
        due("length() after cut(0)", x.length(), 0);
    }

    private static void byteOfTheFile() {
        ReelOfBoxes x = new ReelOfBoxes();
        due("at(0) of an empty file", x.at(0), NONE);
        for (int value : new int[] {0, 1, 127, 128, 254, 255}) {
            x.append(value, 1);
            due("at(" + (x.length() - 1) + ")", x.at(x.length() - 1), value);
            due("behind it", x.at(x.length()), NONE);
        }
        for (int i : new int[] {LEAST, -256, -1, 6, 7, 1199, 1200, 1201, 65536, MOST}) {
            due("at(" + i + ")", x.at(i), NONE);
        }
        while (x.length() + 8 <= 1200) {
            x.append(-1, 8);
        }
        x.append(0x0a0b, 2);
        due("at(1199) of a full file", x.at(1199), 0x0b);
        due("at(1200) of a full file", x.at(1200), NONE);
        x.cut(1199);
        due("at(1198) after a cut", x.at(1198), 0x0a);
        due("at(1199) after a cut", x.at(1199), NONE);
    }

    private static void lowestEightBits() {
        ReelOfBoxes x = new ReelOfBoxes();
        x.append(0x010203, 3);
        int[] values = {0, 1, 127, 128, 255, 256, 257, 511, 65536 + 7, -1, -128, -129, -256, LEAST, LEAST + 9, MOST};
        for (int b : values) {
            due("poke(1, " + b + ")", x.poke(1, b), true);
            due("at(1)", x.at(1), b & 255);
            due("at(0) beside it", x.at(0), 1);
            due("at(2) beside it", x.at(2), 3);
            due("length()", x.length(), 3);
        }
    }

    private static void nothingToPoke() {
        ReelOfBoxes x = new ReelOfBoxes();
        due("poke(0, 1) of an empty file", x.poke(0, 1), false);
        due("length() of it", x.length(), 0);
        x.append(0x0102, 2);
        for (int i : new int[] {LEAST, -2, -1, 2, 3, 1199, 1200, 65536, MOST}) {
            due("poke(" + i + ", 9)", x.poke(i, 9), false);
            dueFile("then", x, raw(1, 2));
        }
        due("poke(0, 9)", x.poke(0, 9), true);
        due("poke(1, 8)", x.poke(1, 8), true);
        dueFile("then", x, raw(9, 8));
        for (int i = 0; i < 149; i++) {
            x.append(0, 8);
        }
        x.append(0, 6);
        due("poke(1199, 7) of a full file", x.poke(1199, 7), true);
        due("at(1199)", x.at(1199), 7);
        due("poke(1200, 7) of a full file", x.poke(1200, 7), false);
    }

    private static void highestFirst() {
        long[] numbers = {0x1122334455667788L, 0x8182838485868788L, -1, Long.MIN_VALUE, 0x80};
        for (long number : numbers) {
            for (int n = 1; n <= 8; n++) {
                ReelOfBoxes x = new ReelOfBoxes();
                x.append(0x41, 1);
                due("append of " + n, x.append(number, n), n + 1);
                dueFile("appended", x, join(text("A"), wideNumber(number, n)));
            }
        }
    }

    private static void wrongWidth() {
        ReelOfBoxes x = new ReelOfBoxes();
        x.append(0x4142, 2);
        for (int n : new int[] {LEAST, LEAST + 1, -8, -1, 0, 9, 10, 16, 64, 256, 257, 1200, MOST - 1, MOST}) {
            due("append of " + n, x.append(-1, n), NONE);
            dueFile("then", x, text("AB"));
        }
        int length = 2;
        for (int n = 1; n <= 8; n++) {
            length += n;
            due("append of " + n, x.append(-1, n), length);
            due("length()", x.length(), length);
        }
    }

    private static void appendedTooMuch() {
        for (int n = 1; n <= 8; n++) {
            ReelOfBoxes x = new ReelOfBoxes();
            for (int i = 0; i < 149; i++) {
                x.append(0, 8);
            }
            if (n < 8) {
                x.append(0, 8 - n);
            }
            due("append of " + n + " to 1200", x.append(-1, n), 1200);
            x.cut(1200 - n);
            due("one byte", x.append(0x41, 1), 1201 - n);
            due("append of " + n + " to 1201", x.append(-1, n), NONE);
            due("length() then", x.length(), 1201 - n);
            due("at the end then", x.at(1200 - n), 0x41);
            due("behind the end then", x.at(1201 - n), NONE);
            if (n > 1) {
                due("append of one fewer", x.append(-1, n - 1), 1200);
            }
            for (int more = 1; more <= 8; more++) {
                due("append of " + more + " to a full file", x.append(-1, more), NONE);
            }
            due("length() of a full file", x.length(), 1200);
        }
    }

    private static void firstBytesStay() {
        byte[] file = text("ABCDEFGHIJ");
        for (int n = 0; n <= 10; n++) {
            ReelOfBoxes x = loaded(file);
            due("cut(" + n + ")", x.cut(n), true);
            dueFile("after cut(" + n + ")", x, Arrays.copyOf(file, n));
            due("append", x.append('x', 1), n + 1);
            dueFile("after append", x, join(Arrays.copyOf(file, n), text("x")));
            due("what was cut does not come back", x.cut(n + 2), false);
        }
        ReelOfBoxes y = smallReel();
        y.write(1, 0);
        y.cut(0);
        dueSmallReel("the reel stays", y);
    }

    private static void wrongCut() {
        ReelOfBoxes x = new ReelOfBoxes();
        due("cut(0) of an empty file", x.cut(0), true);
        due("cut(1) of an empty file", x.cut(1), false);
        due("cut(-1) of an empty file", x.cut(-1), false);
        x.append(0x4142, 2);
        for (int n : new int[] {LEAST, LEAST + 2, -2, -1, 3, 4, 1199, 1200, 65538, MOST}) {
            due("cut(" + n + ")", x.cut(n), false);
            dueFile("then", x, text("AB"));
        }
        due("cut(2)", x.cut(2), true);
        dueFile("then", x, text("AB"));
        ReelOfBoxes y = new ReelOfBoxes();
        for (int i = 0; i < 150; i++) {
            y.append(0, 8);
        }
        due("cut(1201) of a full file", y.cut(1201), false);
        due("cut(1200) of a full file", y.cut(1200), true);
        due("length() then", y.length(), 1200);
        due("cut(1199) of a full file", y.cut(1199), true);
        due("length() then", y.length(), 1199);
    }
}
