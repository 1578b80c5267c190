import java.io.ByteArrayOutputStream;
import java.nio.charset.StandardCharsets;

/** What the tests share: files made by hand, box by box, and a count of the answers that are not due. */
abstract class BoxTest {
    static final int NONE = ReelOfBoxes.NONE;
    static int checks = 0;
    static int wrong = 0;

    /** The last words of a test: exit code 1 if an answer was wrong, or none was looked at. */
    static void end() {
        System.out.println(checks + " checks, " + wrong + " wrong");
        if (wrong != 0 || checks == 0) {
            System.exit(1);
        }
    }

    /** A test of its own for a sentence of the document; a call that throws breaks it too. */
    static void sentence(String words, Runnable test) {
        int checksBefore = checks;
        int wrongBefore = wrong;
        try {
            test.run();
        } catch (RuntimeException thrown) {
            wrong++;
            thrown.printStackTrace(System.out);
        }
        if (checks == checksBefore) {
            wrong++;
            System.out.println("nothing was looked at");
        }
        if (wrong != wrongBefore) {
            System.out.println("BROKEN: " + words);
        }
    }

    static void due(String what, long got, long want) {
        checks++;
        if (got != want) {
            wrong++;
            System.out.println(what + " answered " + got + ", due is " + want);
        }
    }

    static void due(String what, boolean got, boolean want) {
        due(what, got ? 1 : 0, want ? 1 : 0);
    }

    static byte[] join(byte[]... parts) {
        ByteArrayOutputStream all = new ByteArrayOutputStream();
        for (byte[] part : parts) {
            all.writeBytes(part);
        }
        return all.toByteArray();
    }

    static byte[] wideNumber(long number, int width) {
        byte[] row = new byte[width];
        for (int i = 0; i < width; i++) {
            row[i] = (byte) (number >>> (8 * (width - 1 - i)));
        }
        return row;
    }

    /** Numbers of 4 bytes. */
    static byte[] n4(long... numbers) {
        byte[][] rows = new byte[numbers.length][];
        for (int i = 0; i < numbers.length; i++) {
            rows[i] = wideNumber(numbers[i], 4);
        }
        return join(rows);
    }

    /** Numbers of 8 bytes. */
    static byte[] n8(long... numbers) {
        byte[][] rows = new byte[numbers.length][];
        for (int i = 0; i < numbers.length; i++) {
            rows[i] = wideNumber(numbers[i], 8);
        }
        return join(rows);
    }

    static byte[] raw(int... values) {
        byte[] row = new byte[values.length];
        for (int i = 0; i < values.length; i++) {
            row[i] = (byte) values[i];
        }
        return row;
    }

    static byte[] text(String type) {
        return type.getBytes(StandardCharsets.ISO_8859_1);
    }

    static byte[] sized(long size, String type, byte[]... contents) {
        return join(n4(size), text(type), join(contents));
    }

    static byte[] box(String type, byte[]... contents) {
        byte[] content = join(contents);
        return sized(8 + content.length, type, content);
    }

    static byte[] wideSized(long size, String type, byte[]... contents) {
        return join(n4(1), text(type), n8(size), join(contents));
    }

    static byte[] wide(String type, byte[]... contents) {
        byte[] content = join(contents);
        return wideSized(16 + content.length, type, content);
    }

    static final byte[] EMPTY_STTS = box("stts", n4(0, 0));
    static final byte[] EMPTY_STSC = box("stsc", n4(0, 0));
    static final byte[] EMPTY_STSZ = box("stsz", n4(0, 0, 0));
    static final byte[] EMPTY_STCO = box("stco", n4(0, 0));
    static final byte[] EMPTY_CO64 = box("co64", n4(0, 0));
    static final byte[] EMPTY_STBL = box("stbl", EMPTY_STTS, EMPTY_STSC, EMPTY_STSZ, EMPTY_STCO);
    static final byte[] EMPTY_TRAK = box("trak", EMPTY_STBL);
    static final byte[] EMPTY_MOOV = box("moov");
    static final byte[] EMPTY_MDAT = box("mdat");

    static void load(ReelOfBoxes x, byte[] file) {
        x.cut(0);
        int i = 0;
        while (i < file.length) {
            int n = Math.min(8, file.length - i);
            long number = 0;
            for (int k = 0; k < n; k++) {
                number = (number << 8) | (file[i + k] & 255);
            }
            i += n;
            due("append while loading", x.append(number, n), i);
        }
    }

    static ReelOfBoxes loaded(byte[] file) {
        ReelOfBoxes x = new ReelOfBoxes();
        load(x, file);
        return x;
    }

    static void dueFault(String what, byte[] file, int fault, int place) {
        ReelOfBoxes x = loaded(file);
        due(what + ": read()", x.read(), fault);
        due(what + ": place()", x.place(), place);
    }

    static void dueGood(String what, byte[] file) {
        dueFault(what, file, 0, NONE);
    }

    static void dueFile(String what, ReelOfBoxes x, byte[] file) {
        due(what + ": length()", x.length(), file.length);
        for (int i = 0; i < file.length; i++) {
            due(what + ": at(" + i + ")", x.at(i), file[i] & 255);
        }
        due(what + ": at(end)", x.at(file.length), NONE);
    }

    /** mdat of 16 bytes first (content at 8 .. 23), then moov (24), trak (32), stbl (40), the tables (48). */
    static byte[] withTables(byte[]... tables) {
        return join(DATA, box("moov", box("trak", box("stbl", tables))));
    }

    static final byte[] DATA = box("mdat", raw(1, 2, 3, 4, 5, 6, 7, 8, 9, 10, 11, 12, 13, 14, 15, 16));
    // Two samples of 2 and 3 bytes in one chunk at 8.
    static final byte[] STTS = box("stts", n4(0, 1, 2, 10));
    static final byte[] STSC = box("stsc", n4(0, 1, 1, 2, 1));
    static final byte[] STSZ = box("stsz", n4(0, 0, 2, 2, 3));
    static final byte[] STCO = box("stco", n4(0, 1, 8));
    static final int AT_STTS = 48;
    static final int AT_STSC = AT_STTS + 24;
    static final int AT_STSZ = AT_STSC + 28;
    static final int AT_STCO = AT_STSZ + 28;

    static ReelOfBoxes smallReel() {
        ReelOfBoxes x = new ReelOfBoxes();
        x.track();
        x.sample(0, 5, 0x0102, 2);
        x.sample(0, 6, 0x03, 1);
        return x;
    }

    static void dueSmallReel(String what, ReelOfBoxes x) {
        due(what + ": tracks()", x.tracks(), 1);
        due(what + ": samples(0)", x.samples(0), 2);
        due(what + ": bytes(0, 0)", x.bytes(0, 0), 0x0102);
        due(what + ": bytes(0, 1)", x.bytes(0, 1), 3);
        due(what + ": size(0, 0)", x.size(0, 0), 2);
        due(what + ": time(0, 2)", x.time(0, 2), 11);
    }
}
