import java.util.ArrayList;
import java.util.List;
import java.util.function.Consumer;
import java.util.function.Supplier;
import java.util.function.ToLongFunction;

/**
 * "A call that is refused changes nothing.": of two objects with the same calls behind them one gets the refused call
 * too; then both show the same, and go on showing the same. An object shows its file a page at a time, on a new pair
 * for each page, so that none is used for more than 512 calls.
 */
public final class RefusalTest extends BoxTest {
    private static final int MOST = Integer.MAX_VALUE;
    private static final int LEAST = Integer.MIN_VALUE;
    private static final int PAGE = 150;

    public static void main(String[] args) {
        for (State state : STATES) {
            sentence("A call that is refused changes nothing: track(), " + state.name, () -> tracks(state));
            sentence("A call that is refused changes nothing: sample(..), " + state.name, () -> samples(state));
            sentence("A call that is refused changes nothing: write(..), " + state.name, () -> writes(state));
            sentence("A call that is refused changes nothing: poke(..), " + state.name, () -> pokes(state));
            sentence("A call that is refused changes nothing: append(..), " + state.name, () -> appends(state));
            sentence("A call that is refused changes nothing: cut(..), " + state.name, () -> cuts(state));
            sentence("A call that asks changes nothing, " + state.name, () -> questions(state));
        }
        sentence("A read() that tells a fault leaves the reel and the file", RefusalTest::faultyReads);
        end();
    }

    // ---- states, each with calls that are refused in it ----

    private static final class State {
        final String name;
        final Supplier<ReelOfBoxes> make;
        final int tracks;
        final int samplesOfFirst;
        final int length;

        State(String name, Supplier<ReelOfBoxes> make) {
            this.name = name;
            this.make = make;
            ReelOfBoxes x = make.get();
            tracks = x.tracks();
            samplesOfFirst = x.samples(0);
            length = x.length();
        }
    }

    private static final State[] STATES = {
        new State("a new object", ReelOfBoxes::new),
        new State("a track without samples", RefusalTest::emptyTrack),
        new State("a reel and no file", BoxTest::smallReel),
        new State("a reel and its file", RefusalTest::written),
        new State("a reel and another file", RefusalTest::reelBesideFile),
        new State("a fault was told", RefusalTest::faultTold),
        new State("a reel that was read", RefusalTest::readReel),
        new State("three tracks, one of them full", RefusalTest::threeTracks),
        new State("a full reel that can not be written", RefusalTest::fullReel),
        new State("a full file", RefusalTest::fullFile),
        new State("a file with room for 3 bytes", RefusalTest::almostFullFile),
        new State("a written file of 1200 bytes", RefusalTest::fullWritten),
        new State("a reel that was cleared, a file that was cut", RefusalTest::clearedAndCut),
    };

    private static ReelOfBoxes emptyTrack() {
        ReelOfBoxes x = new ReelOfBoxes();
        x.track();
        return x;
    }

    private static ReelOfBoxes written() {
        ReelOfBoxes x = smallReel();
        x.track();
        x.sample(1, 9, -1, 8);
        x.write(1, 3);
        return x;
    }

    private static ReelOfBoxes reelBesideFile() {
        ReelOfBoxes x = smallReel();
        x.append(0x4142434445L, 5);
        return x;
    }

    private static ReelOfBoxes faultTold() {
        ReelOfBoxes x = smallReel();
        load(x, withTables(STTS, STSC, EMPTY_STSZ, STCO));
        due("read()", x.read(), 6);
        return x;
    }

    private static ReelOfBoxes readReel() {
        ReelOfBoxes x = loaded(withTables(STTS, STSC, STSZ, STCO));
        due("read()", x.read(), 0);
        return x;
    }

    private static ReelOfBoxes threeTracks() {
        ReelOfBoxes x = new ReelOfBoxes();
        x.track();
        x.track();
        x.track();
        for (int i = 0; i < 16; i++) {
            x.sample(0, i, 0x1122334455667788L * i, i % 9);
        }
        x.sample(1, 4, 5, 1);
        x.write(3, 1);
        return x;
    }

    private static ReelOfBoxes largeReel(int dataBytes) {
        ReelOfBoxes x = new ReelOfBoxes();
        int left = dataBytes;
        for (int t = 0; t < 3; t++) {
            x.track();
            for (int i = 0; i < 16; i++) {
                int n = Math.min(left, 8);
                x.sample(t, i, 0x0102030405060708L + i, n);
                left -= n;
            }
        }
        return x;
    }

    private static ReelOfBoxes fullReel() {
        ReelOfBoxes x = largeReel(384);
        x.append(0x4142434445L, 5);
        return x;
    }

    private static ReelOfBoxes fullFile() {
        ReelOfBoxes x = smallReel();
        for (int i = 0; i < 150; i++) {
            x.append(0x0123456789abcdefL + i, 8);
        }
        return x;
    }

    private static ReelOfBoxes almostFullFile() {
        ReelOfBoxes x = fullFile();
        x.cut(1197);
        return x;
    }

    private static ReelOfBoxes fullWritten() {
        ReelOfBoxes x = largeReel(1200 - 8 - 3 * 292 - 8);
        due("write of 1200 bytes", x.write(16, 0), 1200);
        return x;
    }

    private static ReelOfBoxes clearedAndCut() {
        ReelOfBoxes x = threeTracks();
        x.clear();
        x.cut(20);
        return x;
    }

    // ---- what an object shows ----

    private static List<Long> showReel(ReelOfBoxes x) {
        List<Long> shown = new ArrayList<>();
        shown.add((long) x.tracks());
        shown.add((long) x.place());
        shown.add((long) x.length());
        for (int t = -1; t <= 3; t++) {
            shown.add((long) x.samples(t));
        }
        for (int t = 0; t < 3; t++) {
            for (int i = 0; i <= 16; i++) {
                shown.add((long) x.size(t, i));
                shown.add(x.time(t, i));
                shown.add(x.bytes(t, i));
            }
        }
        return shown;
    }

    private static List<Long> showPage(ReelOfBoxes x, int page) {
        List<Long> shown = new ArrayList<>();
        for (int i = page * PAGE - 1; i <= (page + 1) * PAGE; i++) {
            shown.add((long) x.at(i));
        }
        return shown;
    }

    /** Goes on with calls that change things: what a refused call left behind unseen would show here. */
    private static List<Long> goOn(ReelOfBoxes x) {
        List<Long> shown = new ArrayList<>();
        shown.add((long) x.append(0x55, 1));
        shown.add((long) x.read());
        shown.add((long) x.place());
        shown.add((long) x.track());
        shown.add((long) x.sample(0, 7, 0x6677, 2));
        shown.add((long) x.sample(1, 7, 0x66, 1));
        shown.add((long) x.write(2, 0));
        shown.add((long) x.read());
        shown.add((long) x.place());
        shown.addAll(showReel(x));
        shown.add((long) x.clear());
        shown.add((long) x.track());
        shown.add((long) x.samples(0));
        shown.add((long) x.write(1, 2));
        shown.add((long) x.length());
        return shown;
    }

    private static void dueSame(String what, List<Long> got, List<Long> want) {
        for (int i = 0; i < want.size(); i++) {
            due(what + " (" + i + ")", got.get(i), want.get(i));
        }
    }

    private static void dueNothing(String call, State state, ToLongFunction<ReelOfBoxes> refused, long answer) {
        String what = state.name + ", " + call;
        ReelOfBoxes x = state.make.get();
        due(what, refused.applyAsLong(x), answer);
        due(what + ", again", refused.applyAsLong(x), answer);
        dueSame(what + ": what the reel shows", showReel(x), showReel(state.make.get()));
        int pages = state.length / PAGE + 1;
        for (int page = 0; page < pages; page++) {
            ReelOfBoxes y = state.make.get();
            due(what, refused.applyAsLong(y), answer);
            dueSame(what + ": what page " + page + " shows", showPage(y, page), showPage(state.make.get(), page));
        }
        ReelOfBoxes z = state.make.get();
        due(what, refused.applyAsLong(z), answer);
        dueSame(what + ": what it shows later", goOn(z), goOn(state.make.get()));
    }

    // ---- the calls ----

    private static void tracks(State state) {
        ReelOfBoxes x = state.make.get();
        due(state.name + ": track()", x.track(), state.tracks < 3 ? state.tracks : NONE);
        if (state.tracks == 3) {
            dueNothing("track()", state, ReelOfBoxes::track, NONE);
        }
    }

    private static void dueNoSample(State state, int track, int duration, int n) {
        dueNothing("sample(" + track + ", " + duration + ", -2, " + n + ")", state,
            x -> x.sample(track, duration, -2, n), NONE);
    }

    private static void samples(State state) {
        for (int track : new int[] {LEAST, -1, state.tracks, 3, MOST}) {
            dueNoSample(state, track, 5, 3);
        }
        for (int duration : new int[] {-1, LEAST}) {
            dueNoSample(state, 0, duration, 3);
        }
        for (int n : new int[] {LEAST, -1, 9, MOST}) {
            dueNoSample(state, 0, 5, n);
        }
        dueNoSample(state, 2, -1, 9);
        if (state.samplesOfFirst == 16) {
            dueNoSample(state, 0, 5, 3);
            dueNoSample(state, 0, 0, 0);
        }
    }

    private static void dueNoWrite(State state, int per, int how) {
        dueNothing("write(" + per + ", " + how + ")", state, x -> x.write(per, how), 0);
    }

    private static void writes(State state) {
        for (int per : new int[] {LEAST, -1, 0, 17, MOST}) {
            dueNoWrite(state, per, 0);
            dueNoWrite(state, per, 3);
        }
        for (int how : new int[] {LEAST, -1, 4, MOST}) {
            dueNoWrite(state, 1, how);
            dueNoWrite(state, 16, how);
        }
        dueNoWrite(state, 0, 4);
        if (state.name.startsWith("a full reel")) {
            for (int how = 0; how <= 3; how++) {
                dueNoWrite(state, 1, how);
                dueNoWrite(state, 16, how);
            }
        }
        if (state.name.startsWith("a written file of 1200")) {
            dueNoWrite(state, 16, 1);
            dueNoWrite(state, 16, 2);
            dueNoWrite(state, 16, 3);
            dueNoWrite(state, 8, 0);
            dueNoWrite(state, 1, 0);
        }
    }

    private static void pokes(State state) {
        for (int i : new int[] {LEAST, -1, state.length, state.length + 1, 1200, MOST}) {
            dueNothing("poke(" + i + ", 119)", state, x -> x.poke(i, 119) ? 1 : 0, 0);
        }
    }

    private static void appends(State state) {
        for (int n : new int[] {LEAST, -1, 0, 9, MOST}) {
            dueNothing("append(-1, " + n + ")", state, x -> x.append(-1, n), NONE);
        }
        for (int n = 1; n <= 8; n++) {
            int bytes = n;
            if (state.length + bytes > 1200) {
                dueNothing("append(-1, " + bytes + ")", state, x -> x.append(-1, bytes), NONE);
            }
        }
    }

    private static void cuts(State state) {
        for (int n : new int[] {LEAST, -1, state.length + 1, 1201, MOST}) {
            dueNothing("cut(" + n + ")", state, x -> x.cut(n) ? 1 : 0, 0);
        }
    }

    private static void questions(State state) {
        int[] numbers = {LEAST, -1, 0, 1, 3, 15, 16, 17, 1200, MOST};
        Consumer<ReelOfBoxes> askAll = x -> {
            x.tracks();
            x.place();
            x.length();
            for (int a : numbers) {
                x.samples(a);
                x.at(a);
                x.size(a, 0);
                x.size(0, a);
                x.time(a, 0);
                x.time(0, a);
                x.bytes(a, 0);
                x.bytes(0, a);
            }
        };
        dueNothing("all questions", state, x -> {
            askAll.accept(x);
            return 0;
        }, 0);
        due(state.name + ": cut() to its length", state.make.get().cut(state.length), true);
        dueNothing("cut() to its length", state, x -> x.cut(state.length) ? 1 : 0, 1);
    }

    // ---- reads with a fault ----

    private static final byte[][] FAULTY = {
        raw(0), join(EMPTY_MOOV, EMPTY_MOOV), EMPTY_MOOV, withTables(box("stts"), STSC, STSZ, STCO),
        withTables(STTS, box("stsc", n4(1, 0)), STSZ, STCO), withTables(STTS, STSC, EMPTY_STSZ, STCO),
        withTables(STTS, STSC, STSZ, box("stco", n4(0, 1, 7))),
    };

    private static ReelOfBoxes reelWithFile(byte[] file) {
        ReelOfBoxes x = new ReelOfBoxes();
        x.track();
        x.track();
        for (int i = 0; i < 16; i++) {
            x.sample(0, i, 0x1122334455667788L * i, i % 9);
        }
        x.sample(1, 4, 5, 1);
        load(x, file);
        return x;
    }

    /** Two good tracks, then one with a fault of each kind from 4 to 7: what was found before it is not kept. */
    private static byte[] thirdTrackWith(byte[]... tables) {
        byte[] good = box("trak", box("stbl", STTS, STSC, STSZ, STCO));
        return join(DATA, box("moov", good, good, box("trak", box("stbl", tables))));
    }

    private static void dueReelStays(int fault, byte[] file) {
        ReelOfBoxes x = reelWithFile(file);
        due("read()", x.read(), fault);
        due("read() again", x.read(), fault);
        List<Long> want = showReel(reelWithFile(file));
        List<Long> got = showReel(x);
        due("place() is told", got.get(1) != NONE, true);
        // Only the place, the second that is shown, is another.
        got.set(1, want.get(1));
        dueSame("fault " + fault + ": what the reel shows", got, want);
        for (int page = 0; page <= file.length / PAGE; page++) {
            ReelOfBoxes y = reelWithFile(file);
            due("read()", y.read(), fault);
            dueSame("fault " + fault + ": what page " + page + " shows", showPage(y, page),
                showPage(reelWithFile(file), page));
        }
        ReelOfBoxes z = reelWithFile(file);
        due("read()", z.read(), fault);
        dueSame("fault " + fault + ": what it shows later", goOn(z), goOn(reelWithFile(file)));
    }

    private static void faultyReads() {
        for (int fault = 1; fault <= 7; fault++) {
            dueReelStays(fault, FAULTY[fault - 1]);
        }
        dueReelStays(1, thirdTrackWith(STTS, STSC, STSZ, STCO, raw(0)));
        dueReelStays(2, thirdTrackWith(STTS, STSC, STSZ, STCO, STTS));
        dueReelStays(3, thirdTrackWith(STTS, STSC, STSZ));
        dueReelStays(4, thirdTrackWith(box("stts"), STSC, STSZ, STCO));
        dueReelStays(5, thirdTrackWith(STTS, STSC, STSZ, box("stco", n4(1, 1, 8))));
        dueReelStays(6, thirdTrackWith(STTS, STSC, EMPTY_STSZ, STCO));
        dueReelStays(7, thirdTrackWith(STTS, STSC, STSZ, box("stco", n4(0, 1, 7))));
    }
}
