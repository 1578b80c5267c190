import java.util.ArrayList;
import java.util.Arrays;
import java.util.List;
import java.util.Random;

/** The program beside the model, over runs made up from fixed seeds, so that each time they are the same. */
public final class ModelTest {
    private static final int RUNS = 60_000;
    private static final int MOST_CALLS = 512;

    public static void main(String[] args) {
        int wrong = 0;
        int[] faults = new int[8];
        for (int run = 0; run < RUNS && wrong < 5; run++) {
            wrong += new Run(run, faults).play() ? 0 : 1;
        }
        System.out.println(RUNS + " runs, reads by fault " + Arrays.toString(faults));
        boolean allSeen = Arrays.stream(faults).allMatch(count -> count > 500);
        if (!allSeen) {
            System.out.println("the runs do not come to every fault often enough");
        }
        if (wrong != 0 || !allSeen) {
            System.exit(1);
        }
    }

    private static final class Run {
        private static final long[] EDGES = {
            0, 1, 2, 3, 7, 8, 9, 15, 16, 17, 255, 0x7fffffffL, 0x80000000L, 0xffffffffL, 0x100000001L, -1, Long.MAX_VALUE,
            Long.MIN_VALUE,
        };
        private static final String[] TYPES = {
            "moov", "mdat", "trak", "stbl", "stts", "stsc", "stsz", "stco", "co64", "free",
        };

        private final int run;
        private final int[] faults;
        private final Random random;
        private final ReelOfBoxes x = new ReelOfBoxes();
        private final Model model = new Model();
        private final StringBuilder calls = new StringBuilder();
        private int made = 0;
        private boolean isRight = true;

        Run(int run, int[] faults) {
            this.run = run;
            this.faults = faults;
            random = new Random(run);
        }

        boolean play() {
            try {
                for (int turn = 0; turn < 12 && isRight && made < MOST_CALLS - 200; turn++) {
                    playTurn();
                }
            } catch (RuntimeException thrown) {
                thrown.printStackTrace(System.out);
                isRight = false;
            }
            if (!isRight) {
                System.out.println("run " + run + ":" + calls);
            }
            return isRight;
        }

        private void due(String call, long got, long want) {
            made++;
            calls.append("\n  ").append(call).append(" answered ").append(got);
            if (got != want) {
                calls.append(", due is ").append(want);
                isRight = false;
            }
        }

        private int small(int bound) {
            return random.nextInt(bound);
        }

        private int anyInt() {
            return small(6) == 0 ? (int) EDGES[small(EDGES.length)] : small(20) - 2;
        }

        private void playTurn() {
            switch (small(8)) {
                case 0:
                    fillReel();
                    break;
                case 1:
                    due("clear()", x.clear(), model.clear());
                    break;
                case 2:
                case 3:
                    write(1 + small(16), small(4));
                    break;
                case 4:
                    write(anyInt(), anyInt());
                    break;
                case 5:
                    loadMadeUp();
                    break;
                case 6:
                    spoil();
                    break;
                default:
                    callBytes();
                    break;
            }
            if (small(3) != 0) {
                read();
            }
            ask();
        }

        private void fillReel() {
            int count = small(4);
            for (int t = 0; t < count; t++) {
                due("track()", x.track(), model.track());
            }
            count = small(18);
            int most = small(4) == 0 ? 1 : 40;
            for (int i = 0; i < count; i++) {
                int track = small(most) == 0 ? anyInt() : small(3);
                int duration = small(most) == 0 ? anyInt() : small(3) + 1;
                int n = small(most) == 0 ? anyInt() : small(9);
                long bytes = random.nextLong();
                due("sample(" + track + ", " + duration + ", " + bytes + ", " + n + ")",
                    x.sample(track, duration, bytes, n), model.sample(track, duration, bytes, n));
            }
        }

        private void write(int per, int how) {
            due("write(" + per + ", " + how + ")", x.write(per, how), model.write(per, how));
        }

        private void read() {
            int fault = model.read();
            faults[fault]++;
            due("read()", x.read(), fault);
            due("place()", x.place(), model.place);
        }

        private void ask() {
            due("tracks()", x.tracks(), model.tracks());
            due("length()", x.length(), model.file.length);
            for (int k = 0; k < 3; k++) {
                int t = small(5) == 0 ? anyInt() : small(3);
                int i = small(5) == 0 ? anyInt() : small(17);
                due("samples(" + t + ")", x.samples(t), model.samples(t));
                due("size(" + t + ", " + i + ")", x.size(t, i), model.size(t, i));
                due("time(" + t + ", " + i + ")", x.time(t, i), model.time(t, i));
                due("bytes(" + t + ", " + i + ")", x.bytes(t, i), model.bytes(t, i));
                int p = small(5) == 0 ? anyInt() : small(model.file.length + 1);
                due("at(" + p + ")", x.at(p), model.at(p));
            }
        }

        private void callBytes() {
            int p = small(2) == 0 ? anyInt() : small(model.file.length + 2);
            int b = random.nextInt();
            due("poke(" + p + ", " + b + ")", x.poke(p, b) ? 1 : 0, model.poke(p, b) ? 1 : 0);
            int n = anyInt();
            long bytes = random.nextLong();
            due("append(" + bytes + ", " + n + ")", x.append(bytes, n), model.append(bytes, n));
            n = small(2) == 0 ? anyInt() : model.file.length - small(4);
            due("cut(" + n + ")", x.cut(n) ? 1 : 0, model.cut(n) ? 1 : 0);
        }

        /** Puts an edge where a number may stand, or changes a type. */
        private void spoil() {
            int spots = 1 + small(2);
            for (int k = 0; k < spots; k++) {
                int p = 4 * small(model.file.length / 4 + 1);
                if (small(4) == 0) {
                    pokeAll(p, Model.text(TYPES[small(TYPES.length)]));
                } else {
                    pokeAll(p, Model.number(small(3) == 0 ? small(300) : EDGES[small(EDGES.length)], 4));
                }
            }
        }

        private void pokeAll(int p, byte[] values) {
            for (int i = 0; i < values.length; i++) {
                due("poke(" + (p + i) + ", " + values[i] + ")", x.poke(p + i, values[i]) ? 1 : 0,
                    model.poke(p + i, values[i]) ? 1 : 0);
            }
        }

        // -- made-up files: mostly right, now and then one thing wrong --

        private int oddity = 40;

        private boolean isOdd() {
            return small(oddity) == 0;
        }

        private void loadMadeUp() {
            oddity = new int[] {15, 40, 120, 100_000}[small(4)];
            due("cut(0)", x.cut(0) ? 1 : 0, model.cut(0) ? 1 : 0);
            byte[] file = madeUpFile();
            for (int i = 0; i < file.length; i += 8) {
                int n = Math.min(8, file.length - i);
                long value = 0;
                for (int k = 0; k < n; k++) {
                    value = value << 8 | file[i + k] & 255;
                }
                due("append(" + value + ", " + n + ")", x.append(value, n), model.append(value, n));
            }
            read();
        }

        private byte[] madeBox(String type, byte[] content) {
            boolean isWide = small(6) == 0;
            long size = content.length + (isWide ? 16 : 8);
            if (isOdd()) {
                size = small(2) == 0 ? EDGES[small(EDGES.length)] : size + small(5) - 2;
            }
            byte[] name = Model.text(isOdd() ? TYPES[small(TYPES.length)] : type);
            return isWide ? Model.join(Model.number(1, 4), name, Model.number(size, 8), content) : Model.join(Model.number(size, 4), name, content);
        }

        private byte[] other(String... types) {
            byte[] content = new byte[small(6)];
            random.nextBytes(content);
            return small(6) == 0 ? madeBox(types[small(types.length)], content) : new byte[0];
        }

        private byte[] shuffled(List<byte[]> parts) {
            for (int i = parts.size() - 1; i > 0 && small(2) == 0; i--) {
                byte[] moved = parts.remove(small(i + 1));
                parts.add(moved);
            }
            if (isOdd()) {
                parts.remove(small(parts.size()));
            }
            if (isOdd() && !parts.isEmpty()) {
                parts.add(parts.get(small(parts.size())));
            }
            return Model.join(parts.toArray(new byte[0][]));
        }

        private byte[] madeUpFile() {
            byte[] data = new byte[small(30)];
            random.nextBytes(data);
            byte[] mdat = madeBox("mdat", data);
            int from = mdat.length - data.length;
            byte[] traks = {};
            int count = isOdd() ? 4 : small(3);
            for (int t = 0; t < count; t++) {
                traks = Model.join(traks, madeUpTrak(from, from + data.length), other("free", "moov", "stbl", "mdat"));
            }
            List<byte[]> parts = new ArrayList<>(List.of(mdat, madeBox("moov", traks), other("free", "trak", "stts")));
            if (small(8) == 0) {
                return shuffled(parts);
            }
            return Model.join(parts.toArray(new byte[0][]));
        }

        private byte[] n4(long value) {
            if (isOdd() && isOdd()) {
                return Model.number(EDGES[small(EDGES.length)], 4);
            }
            return Model.number(isOdd() && isOdd() ? value + small(3) - 1 : value, 4);
        }

        private byte[] madeUpTrak(int from, int to) {
            int chunks = small(5);
            int samples = 0;
            byte[] stsc = {};
            int entries = 0;
            int each = 0;
            for (int c = 1; c <= chunks; c++) {
                if (c == 1 || small(3) == 0) {
                    each = 1 + small(4);
                    stsc = Model.join(stsc, n4(c), n4(each), n4(1));
                    entries++;
                }
                samples += each;
            }
            int sizeForAll = small(3) == 0 ? 1 + small(2) : 0;
            byte[] stsz = Model.join(n4(0), n4(sizeForAll), n4(samples));
            for (int i = 0; sizeForAll == 0 && i < samples; i++) {
                stsz = Model.join(stsz, n4(isOdd() ? small(11) : small(3)));
            }
            boolean isLong = small(2) == 0;
            byte[] places = {};
            for (int c = 0; c < chunks; c++) {
                long place = isOdd() ? EDGES[small(EDGES.length)] : from + small(Math.max(1, (to - from) * 2 / 3));
                places = Model.join(places, Model.number(place, isLong ? 8 : 4));
            }
            List<byte[]> parts = new ArrayList<>();
            parts.add(madeBox("stts", madeUpStts(samples)));
            parts.add(madeBox("stsc", Model.join(n4(0), n4(entries), stsc)));
            parts.add(madeBox("stsz", stsz));
            parts.add(madeBox(isLong ? "co64" : "stco", Model.join(n4(0), n4(chunks), places)));
            parts.add(other("free", "moov", "trak", "stbl", "mdat"));
            byte[] stbl = madeBox("stbl", shuffled(parts));
            return madeBox("trak", Model.join(other("free", "stts", "trak"), stbl, other("free", "moov", "mdat")));
        }

        private byte[] madeUpStts(int samples) {
            byte[] rows = {};
            int entries = 0;
            int left = samples;
            while (left > 0) {
                int row = 1 + small(left);
                rows = Model.join(rows, n4(row), n4(small(3) == 0 ? Integer.MAX_VALUE : small(5)));
                entries++;
                left -= row;
            }
            return Model.join(n4(0), n4(entries), rows);
        }
    }
}
