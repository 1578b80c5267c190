import java.io.ByteArrayOutputStream;
import java.nio.charset.StandardCharsets;
import java.util.ArrayList;
import java.util.Arrays;
import java.util.HashMap;
import java.util.List;
import java.util.Map;

/** The document read a second time, in lists and exceptions, without the program's limits. */
final class Model {
    private static final class Sample {
        final int duration;
        final byte[] bytes;

        Sample(int duration, byte[] bytes) {
            this.duration = duration;
            this.bytes = bytes;
        }
    }

    private static final class FaultFound extends RuntimeException {
        private static final long serialVersionUID = 1;
        final int fault;
        final int place;

        FaultFound(int fault, int place) {
            super("fault " + fault + " at " + place, null, false, false);
            this.fault = fault;
            this.place = place;
        }
    }

    private static final class Box {
        int begin;
        int content;
        int end;
        String type;
    }

    private List<List<Sample>> reel = new ArrayList<>();
    byte[] file = new byte[0];
    int place = -1;

    int track() {
        if (reel.size() == 3) {
            return -1;
        }
        reel.add(new ArrayList<>());
        return reel.size() - 1;
    }

    private List<Sample> samplesOf(int track) {
        return track >= 0 && track < reel.size() ? reel.get(track) : null;
    }

    int sample(int track, int duration, long bytes, int n) {
        List<Sample> row = samplesOf(track);
        if (row == null || row.size() == 16 || duration < 0 || n < 0 || n > 8) {
            return -1;
        }
        byte[] content = new byte[n];
        for (int i = 0; i < n; i++) {
            content[i] = (byte) (bytes >> (8 * i));
        }
        row.add(new Sample(duration, content));
        return row.size() - 1;
    }

    int clear() {
        int had = reel.size();
        reel = new ArrayList<>();
        return had;
    }

    int tracks() {
        return reel.size();
    }

    int samples(int track) {
        return samplesOf(track) == null ? -1 : samplesOf(track).size();
    }

    private Sample find(int track, int i) {
        List<Sample> row = samplesOf(track);
        return row == null || i < 0 || i >= row.size() ? null : row.get(i);
    }

    int size(int track, int i) {
        return find(track, i) == null ? -1 : find(track, i).bytes.length;
    }

    long time(int track, int i) {
        List<Sample> row = samplesOf(track);
        if (row == null || i < 0 || i > row.size()) {
            return -1;
        }
        return row.subList(0, i).stream().mapToLong(sample -> sample.duration).sum();
    }

    long bytes(int track, int i) {
        Sample sample = find(track, i);
        long number = 0;
        for (int k = 0; sample != null && k < sample.bytes.length; k++) {
            number |= (sample.bytes[k] & 255L) << (8 * k);
        }
        return number;
    }

    int at(int i) {
        return i >= 0 && i < file.length ? file[i] & 255 : -1;
    }

    boolean poke(int i, int b) {
        if (i < 0 || i >= file.length) {
            return false;
        }
        file[i] = (byte) b;
        return true;
    }

    int append(long bytes, int n) {
        if (n < 1 || n > 8 || file.length + n > 1200) {
            return -1;
        }
        file = join(file, number(bytes, n));
        return file.length;
    }

    boolean cut(int n) {
        if (n < 0 || n > file.length) {
            return false;
        }
        file = Arrays.copyOf(file, n);
        return true;
    }

    // -- writing: once with places of 0 to learn how long moov is, once with the right ones --

    int write(int per, int how) {
        if (per < 1 || per > 16 || how < 0 || how > 3) {
            return 0;
        }
        Map<Integer, Integer> places = new HashMap<>();
        int moovLength = moov(per, how, places).length;
        int dataBegin = moovLength + ((how & 2) != 0 ? 16 : 8);
        ByteArrayOutputStream data = new ByteArrayOutputStream();
        for (int round = 0; round < 16; round++) {
            for (int t = 0; t < reel.size(); t++) {
                List<Sample> row = reel.get(t);
                if (round * per < row.size()) {
                    places.put(t * 100 + round, dataBegin + data.size());
                    row.subList(round * per, Math.min(row.size(), round * per + per))
                        .forEach(sample -> data.writeBytes(sample.bytes));
                }
            }
        }
        byte[] mdat = (how & 2) != 0
            ? join(number(1, 4), text("mdat"), number(16 + data.size(), 8), data.toByteArray())
            : box("mdat", data.toByteArray());
        byte[] all = join(moov(per, how, places), mdat);
        if (all.length > 1200) {
            return 0;
        }
        file = all;
        return all.length;
    }

    private byte[] moov(int per, int how, Map<Integer, Integer> places) {
        byte[] traks = {};
        for (int t = 0; t < reel.size(); t++) {
            List<Sample> row = reel.get(t);
            List<Integer> stts = new ArrayList<>();
            List<Integer> stsc = new ArrayList<>();
            List<Integer> sizes = new ArrayList<>();
            byte[] begins = {};
            int chunks = 0;
            int lastLength = 0;
            for (int i = 0; i < row.size(); i++) {
                int duration = row.get(i).duration;
                if (i > 0 && row.get(i - 1).duration == duration) {
                    stts.set(stts.size() - 2, stts.get(stts.size() - 2) + 1);
                } else {
                    stts.addAll(List.of(1, duration));
                }
                sizes.add(row.get(i).bytes.length);
            }
            for (int i = 0; i < row.size(); i += per) {
                int length = Math.min(per, row.size() - i);
                if (chunks == 0 || length < lastLength) {
                    stsc.addAll(List.of(chunks + 1, length, 1));
                }
                lastLength = length;
                int begin = places.getOrDefault(t * 100 + chunks, 0);
                begins = join(begins, number(begin, (how & 1) != 0 ? 8 : 4));
                chunks++;
            }
            byte[] stbl = box("stbl", join(
                box("stts", join(number(0, 4), number(stts.size() / 2, 4), numbers(stts))),
                box("stsc", join(number(0, 4), number(stsc.size() / 3, 4), numbers(stsc))),
                box("stsz", join(number(0, 8), number(sizes.size(), 4), numbers(sizes))),
                box((how & 1) != 0 ? "co64" : "stco", join(number(0, 4), number(chunks, 4), begins))));
            traks = join(traks, box("trak", stbl));
        }
        return box("moov", traks);
    }

    // -- reading --

    int read() {
        try {
            reel = tracksOfFile();
            place = -1;
            return 0;
        } catch (FaultFound found) {
            place = found.place;
            return found.fault;
        }
    }

    private long get(int from, int width) {
        long value = 0;
        for (int i = 0; i < width; i++) {
            value = value * 256 + (file[from + i] & 255);
        }
        return value;
    }

    private Box boxAt(int begin, int limit) {
        Box box = new Box();
        box.begin = begin;
        if (begin + 8 > limit) {
            throw new FaultFound(1, begin);
        }
        long size = get(begin, 4);
        box.type = new String(file, begin + 4, 4, StandardCharsets.ISO_8859_1);
        box.content = begin + 8;
        long least = 8;
        if (size == 1) {
            if (begin + 16 > limit) {
                throw new FaultFound(1, begin);
            }
            size = get(begin + 8, 8);
            box.content = begin + 16;
            least = 16;
        }
        if (size < least || size > 1200 || begin + size > limit) {
            throw new FaultFound(1, begin);
        }
        box.end = (int) (begin + size);
        return box;
    }

    private static void once(Map<String, Box> found, String key, Box box) {
        if (found.put(key, box) != null) {
            throw new FaultFound(2, box.begin);
        }
    }

    private static void need(Map<String, Box> found, int begin, String... keys) {
        if (!found.keySet().containsAll(Arrays.asList(keys))) {
            throw new FaultFound(3, begin);
        }
    }

    private List<List<Sample>> tracksOfFile() {
        Map<String, Box> top = new HashMap<>();
        List<Map<String, Box>> traks = new ArrayList<>();
        for (int p = 0; p < file.length;) {
            Box box = boxAt(p, file.length);
            if (box.type.equals("moov") || box.type.equals("mdat")) {
                once(top, box.type, box);
            }
            if (box.type.equals("moov")) {
                goThroughMoov(box, traks);
            }
            p = box.end;
        }
        need(top, 0, "moov", "mdat");
        for (Map<String, Box> trak : traks) {
            checkTables(trak);
        }
        for (Map<String, Box> trak : traks) {
            checkAgreement(trak);
        }
        List<List<Sample>> all = new ArrayList<>();
        for (Map<String, Box> trak : traks) {
            all.add(samplesOfTrak(trak, top.get("mdat")));
        }
        return all;
    }

    private void goThroughMoov(Box moov, List<Map<String, Box>> traks) {
        for (int p = moov.content; p < moov.end;) {
            Box box = boxAt(p, moov.end);
            if (box.type.equals("trak")) {
                if (traks.size() == 3) {
                    throw new FaultFound(2, p);
                }
                traks.add(goThroughTrak(box));
            }
            p = box.end;
        }
    }

    private Map<String, Box> goThroughTrak(Box trak) {
        Map<String, Box> found = new HashMap<>();
        for (int p = trak.content; p < trak.end;) {
            Box box = boxAt(p, trak.end);
            if (box.type.equals("stbl")) {
                once(found, "stbl", box);
                goThroughStbl(box, found);
            }
            p = box.end;
        }
        need(found, trak.begin, "stbl");
        return found;
    }

    private void goThroughStbl(Box stbl, Map<String, Box> found) {
        for (int p = stbl.content; p < stbl.end;) {
            Box box = boxAt(p, stbl.end);
            if (List.of("stts", "stsc", "stsz").contains(box.type)) {
                once(found, box.type, box);
            }
            if (List.of("stco", "co64").contains(box.type)) {
                once(found, "chunks", box);
            }
            p = box.end;
        }
        need(found, stbl.begin, "stts", "stsc", "stsz", "chunks");
    }

    /** All numbers of a table behind its zero; fault 4 when it has not just what it must have. */
    private List<Long> tableNumbers(Box box, int columns) {
        boolean isSizes = box.type.equals("stsz");
        int width = box.type.equals("co64") ? 8 : 4;
        int head = isSizes ? 12 : 8;
        int room = box.end - box.content;
        if (room < head) {
            throw new FaultFound(4, box.begin);
        }
        long count = get(box.content + head - 4, 4);
        if (isSizes && get(box.content + 4, 4) != 0) {
            count = 0;
        }
        if (room - head != count * columns * width) {
            throw new FaultFound(4, box.begin);
        }
        List<Long> numbers = new ArrayList<>();
        for (int p = box.content + 4; p < box.content + head; p += 4) {
            numbers.add(get(p, 4));
        }
        for (int p = box.content + head; p < box.end; p += width) {
            numbers.add(get(p, width));
        }
        return numbers;
    }

    private static void mustBe(boolean isRight, int fault, Box box) {
        if (!isRight) {
            throw new FaultFound(fault, box.begin);
        }
    }

    private void checkTables(Map<String, Box> trak) {
        for (String key : List.of("stts", "stsc", "stsz", "chunks")) {
            Box box = trak.get(key);
            List<Long> numbers = tableNumbers(box, key.equals("stts") ? 2 : key.equals("stsc") ? 3 : 1);
            mustBe(get(box.content, 4) == 0, 5, box);
            for (long number : numbers) {
                mustBe(number >= 0 && number <= Integer.MAX_VALUE, 5, box);
            }
            for (int i = 1; key.equals("stts") && i < numbers.size(); i += 2) {
                mustBe(numbers.get(i) != 0, 5, box);
            }
            for (int i = 1; key.equals("stsc") && i < numbers.size(); i += 3) {
                mustBe(i == 1 ? numbers.get(1) == 1 : numbers.get(i) > numbers.get(i - 3), 5, box);
                mustBe(numbers.get(i + 1) != 0 && numbers.get(i + 2) == 1, 5, box);
            }
        }
    }

    private List<Long> sizesTold(Map<String, Box> trak) {
        List<Long> numbers = tableNumbers(trak.get("stsz"), 1);
        List<Long> sizes = new ArrayList<>();
        for (int i = 0; i < numbers.get(1); i++) {
            sizes.add(numbers.get(0) != 0 ? numbers.get(0) : numbers.get(2 + i));
        }
        return sizes;
    }

    /** How many samples each chunk has. */
    private List<Long> chunkLengths(Map<String, Box> trak) {
        long chunks = tableNumbers(trak.get("chunks"), 1).get(0);
        List<Long> stsc = tableNumbers(trak.get("stsc"), 3);
        List<Long> lengths = new ArrayList<>();
        for (int chunk = 1; chunk <= chunks; chunk++) {
            long length = 0;
            for (int i = 1; i < stsc.size(); i += 3) {
                length = stsc.get(i) <= chunk ? stsc.get(i + 1) : length;
            }
            lengths.add(length);
        }
        return lengths;
    }

    private void checkAgreement(Map<String, Box> trak) {
        Box stbl = trak.get("stbl");
        List<Long> stts = tableNumbers(trak.get("stts"), 2);
        List<Long> stsc = tableNumbers(trak.get("stsc"), 3);
        long count = tableNumbers(trak.get("stsz"), 1).get(1);
        long chunks = tableNumbers(trak.get("chunks"), 1).get(0);
        long sum = 0;
        for (int i = 1; i < stts.size(); i += 2) {
            sum += stts.get(i);
        }
        mustBe(sum == count && count <= 16 && chunks <= 16, 6, stbl);
        for (long size : sizesTold(trak)) {
            mustBe(size <= 8, 6, stbl);
        }
        for (int i = 1; i < stsc.size(); i += 3) {
            mustBe(stsc.get(i) <= chunks, 6, stbl);
        }
        mustBe(chunks == 0 || stsc.get(0) > 0, 6, stbl);
        long inChunks = chunkLengths(trak).stream().mapToLong(Long::longValue).sum();
        mustBe(inChunks == count, 6, stbl);
    }

    private List<Sample> samplesOfTrak(Map<String, Box> trak, Box mdat) {
        List<Long> stts = tableNumbers(trak.get("stts"), 2);
        List<Long> durations = new ArrayList<>();
        for (int i = 1; i < stts.size(); i += 2) {
            for (int k = 0; k < stts.get(i); k++) {
                durations.add(stts.get(i + 1));
            }
        }
        List<Long> sizes = sizesTold(trak);
        List<Long> places = tableNumbers(trak.get("chunks"), 1);
        List<Long> lengths = chunkLengths(trak);
        List<Sample> row = new ArrayList<>();
        for (int chunk = 0; chunk < lengths.size(); chunk++) {
            long begin = places.get(1 + chunk);
            for (int k = 0; k < lengths.get(chunk); k++) {
                int size = (int) (long) sizes.get(row.size());
                boolean isIn = size == 0 || (begin >= mdat.content && begin + size <= mdat.end);
                mustBe(isIn, 7, trak.get("chunks"));
                byte[] bytes = size == 0 ? new byte[0] : Arrays.copyOfRange(file, (int) begin, (int) begin + size);
                row.add(new Sample((int) (long) durations.get(row.size()), bytes));
                begin += size;
            }
        }
        return row;
    }

    // -- bytes --

    static byte[] join(byte[]... parts) {
        ByteArrayOutputStream all = new ByteArrayOutputStream();
        for (byte[] part : parts) {
            all.writeBytes(part);
        }
        return all.toByteArray();
    }

    static byte[] number(long value, int width) {
        byte[] row = new byte[width];
        for (int i = width - 1; i >= 0; i--) {
            row[i] = (byte) value;
            value >>= 8;
        }
        return row;
    }

    static byte[] numbers(List<Integer> values) {
        byte[] row = {};
        for (int value : values) {
            row = join(row, number(value, 4));
        }
        return row;
    }

    static byte[] text(String type) {
        return type.getBytes(StandardCharsets.ISO_8859_1);
    }

    static byte[] box(String type, byte[] content) {
        return join(number(8 + content.length, 4), text(type), content);
    }
}
