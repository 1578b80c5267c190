import java.util.ArrayList;
import java.util.Arrays;
import java.util.List;

/**
 * The program beside the model, over all small changes of a few good files: each byte takes every value, each length
 * is tried, and in the first file any two numbers or types take edges and types of boxes at once.
 */
public final class SweepTest extends BoxTest {
    private static final int MOST_CALLS = 512;
    // More than a small change, read() and a look through three tracks need.
    private static final int CALLS_OF_A_TURN = 200;
    // A program that is wrong would be so thousands of times.
    private static final int ENOUGH_WRONG = 20;
    private static final int CELL = 4;
    private static final long[] EDGES = {
        0, 1, 2, 3, 4, 7, 8, 9, 12, 15, 16, 17, 24, 0x7ffffff8L, 0x7fffffffL, 0x80000000L, 0xffffffffL,
    };
    private static final String[] TYPES = {
        "moov", "mdat", "trak", "stbl", "stts", "stsc", "stsz", "stco", "co64", "free",
    };

    private static final int[] faults = new int[8];
    private static ReelOfBoxes x = new ReelOfBoxes();
    private static Model model = new Model();
    private static int made = 0;

    private SweepTest() {
    }

    public static void main(String[] args) {
        List<byte[]> files = List.of(plainFile(), mixedFile(), fileOfTwoTracks());
        for (byte[] file : files) {
            dueGood("the file itself", file);
            everyByte(file);
            everyLength(file);
        }
        everyPair(plainFile());
        System.out.println("reads by fault " + Arrays.toString(faults));
        due("every fault was come to", Arrays.stream(faults).allMatch(count -> count > 500), true);
        end();
    }

    private static byte[] plainFile() {
        return withTables(box("stts", n4(0, 2, 1, 10, 2, 7)), box("stsc", n4(0, 2, 1, 2, 1, 2, 1, 1)),
            box("stsz", n4(0, 0, 3, 1, 0, 2)), box("stco", n4(0, 2, 8, 22)));
    }

    /** Wide boxes, other boxes among them, tables in another order, a size for all samples. */
    private static byte[] mixedFile() {
        byte[] stbl = wide("stbl", box("free", raw(9)), box("co64", n4(0, 2), n8(16, 20)), box("stsz", n4(0, 2, 2)),
            box("stsc", n4(0, 1, 1, 1, 1)), box("stts", n4(0, 1, 2, 0x7fffffffL)));
        return join(wide("mdat", raw(1, 2, 3, 4, 5, 6, 7, 8)),
            wide("moov", box("free"), box("trak", box("trak"), stbl)));
    }

    private static byte[] fileOfTwoTracks() {
        byte[] stbl = box("stbl", box("stts", n4(0, 1, 1, 3)), box("stsc", n4(0, 1, 1, 1, 1)),
            box("stsz", n4(0, 0, 1, 8)), box("stco", n4(0, 1, 8)));
        return join(DATA, box("moov", EMPTY_TRAK, box("trak", stbl)));
    }

    private static void startAnew() {
        x = new ReelOfBoxes();
        model = new Model();
        made = 0;
    }

    private static void everyByte(byte[] file) {
        startAnew();
        byte[] changed = file.clone();
        for (int i = 0; i < file.length; i++) {
            for (int value = 0; value < 256; value++) {
                changed[i] = (byte) value;
                compare("byte " + i + " is " + value, changed);
            }
            changed[i] = file[i];
        }
    }

    private static void everyLength(byte[] file) {
        startAnew();
        for (int n = 0; n <= file.length + 24; n++) {
            compare("the length is " + n, Arrays.copyOf(file, n));
        }
    }

    private static void everyPair(byte[] file) {
        startAnew();
        List<byte[]> values = cellValues();
        byte[] changed = file.clone();
        for (int i = 0; i + CELL <= file.length; i += CELL) {
            for (byte[] first : values) {
                System.arraycopy(first, 0, changed, i, CELL);
                everySecond(file, changed, i, values);
            }
            System.arraycopy(file, i, changed, i, CELL);
        }
    }

    private static void everySecond(byte[] file, byte[] changed, int i, List<byte[]> values) {
        for (int j = i + CELL; j + CELL <= file.length; j += CELL) {
            for (byte[] second : values) {
                System.arraycopy(second, 0, changed, j, CELL);
                compare("changed at " + i + " and " + j, changed);
            }
            System.arraycopy(file, j, changed, j, CELL);
        }
    }

    private static List<byte[]> cellValues() {
        List<byte[]> values = new ArrayList<>();
        for (long edge : EDGES) {
            values.add(n4(edge));
        }
        for (String type : TYPES) {
            values.add(text(type));
        }
        return values;
    }

    private static void compare(String what, byte[] file) {
        if (wrong >= ENOUGH_WRONG) {
            return;
        }
        if (made + CALLS_OF_A_TURN > MOST_CALLS) {
            startAnew();
        }
        bring(file);
        int wrongBefore = wrong;
        int fault = model.read();
        faults[fault]++;
        due(what + ": read()", x.read(), fault);
        due(what + ": place()", x.place(), model.place);
        due(what + ": tracks()", x.tracks(), model.tracks());
        made += 3;
        if (fault == 0) {
            compareTracks(what);
        }
        due("an object is used for at most 512 calls", made <= MOST_CALLS, true);
        if (wrong != wrongBefore) {
            System.out.println("the file: " + Arrays.toString(file));
        }
    }

    /** Makes the file of both be this one, with as few calls as a small change needs. */
    private static void bring(byte[] file) {
        byte[] had = model.file;
        int common = Math.min(had.length, file.length);
        x.cut(common);
        made++;
        for (int i = 0; i < common; i++) {
            if (had[i] != file[i]) {
                x.poke(i, file[i]);
                made++;
            }
        }
        for (int i = common; i < file.length; i += 8) {
            int n = Math.min(8, file.length - i);
            long number = 0;
            for (int k = 0; k < n; k++) {
                number = number << 8 | file[i + k] & 255;
            }
            x.append(number, n);
            made++;
        }
        model.file = file.clone();
    }

    private static void compareTracks(String what) {
        for (int t = 0; t < model.tracks(); t++) {
            int count = model.samples(t);
            due(what + ": samples(" + t + ")", x.samples(t), count);
            for (int i = 0; i <= count; i++) {
                due(what + ": size(" + t + ", " + i + ")", x.size(t, i), model.size(t, i));
                due(what + ": time(" + t + ", " + i + ")", x.time(t, i), model.time(t, i));
                due(what + ": bytes(" + t + ", " + i + ")", x.bytes(t, i), model.bytes(t, i));
            }
            made += 1 + 3 * (count + 1);
        }
    }
}
