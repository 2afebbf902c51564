/** The boundary cases that promise 6 names, a test for each sentence. */
final class TruncateEdgesTest {
    private static final String SIX = "Promise 6";

    public static void main(String[] args) {
        refused();
        cut();
        sameLength();
        bytesBelow();
        restStays();
        notOpenable();
        Check.end();
    }

    private static void dueRefused(ZipRecover x, int n) {
        Zips.dueUnchanged("truncate(" + n + ") of " + x.length(), x, () -> x.truncate(n), false);
    }

    private static void refused() {
        Check.sentence(SIX, "If `n < 0` or `n > length`, it answers false and nothing changes.");
        for (int length : new int[] {71, 70, 10, 9, 8, 1, 0}) {
            ZipRecover x = Zips.busy();
            x.truncate(length);
            // 71 and 256 are lengths that the image had or may reach, but not now.
            for (int n : new int[] {-1, -2, -length - 1, length + 1, length + 2, 72, 256, 257, 65536}) {
                dueRefused(x, n);
            }
            dueRefused(x, Integer.MIN_VALUE);
            dueRefused(x, Integer.MAX_VALUE);
        }
        ZipRecover full = Zips.holding(Zips.filler(256));
        dueRefused(full, 257);
        Check.due("truncate(256)", full.truncate(256), true);
    }

    private static void cut() {
        Check.sentence(SIX, "Otherwise `length` becomes `n` and the answer is true.");
        for (int n : new int[] {0, 1, 8, 9, 69, 70, 71}) {
            ZipRecover x = Zips.busy();
            Check.due("truncate(" + n + ")", x.truncate(n), true);
            Check.due("length()", x.length(), n);
            Check.due("byteAt(" + n + ")", x.byteAt(n), -1);
        }
    }

    private static void sameLength() {
        Check.sentence(SIX, "`n == length` is accepted and leaves the length as it is.");
        for (int length : new int[] {71, 70, 9, 1, 0}) {
            ZipRecover x = Zips.busy();
            x.truncate(length);
            Zips.dueUnchanged("truncate(" + length + ") again", x, () -> x.truncate(length), true);
            Check.due("length()", x.length(), length);
        }
        ZipRecover fresh = new ZipRecover(64);
        Zips.dueUnchanged("truncate(9)", fresh, () -> fresh.truncate(9), true);
        ZipRecover full = Zips.holding(Zips.filler(256));
        Zips.dueUnchanged("truncate(256)", full, () -> full.truncate(256), true);
    }

    private static void bytesBelow() {
        Check.sentence(SIX, "No byte below `n` changes.");
        int[] image = Zips.image(Zips.busy());
        for (int n = 0; n <= 71; n++) {
            ZipRecover x = Zips.busy();
            x.truncate(n);
            Zips.dueImage("cut at " + n, x, java.util.Arrays.copyOf(image, n));
        }
    }

    private static void restStays() {
        Check.sentence(SIX, "The pending list, found list and capacity do not change.");
        for (int n : new int[] {-1, 0, 1, 9, 22, 70, 71, 72}) {
            ZipRecover x = Zips.busy();
            String pending = Zips.pending(x);
            String found = Zips.found(x);
            Check.due("truncate(" + n + ")", x.truncate(n), n >= 0 && n <= 71);
            Check.due("pending", Zips.pending(x), pending);
            Check.due("found", Zips.found(x), found);
            Check.due("put(43)", x.put(43), true);
            Check.due("crc of the pending entry", x.pendingInfo(0, 2), Zips.crc(42, 43));
            Zips.dueCapacity(x, 256);
        }
        ZipRecover small = new ZipRecover(64);
        small.truncate(0);
        Zips.dueCapacity(small, 64);
    }

    private static void notOpenable() {
        Check.sentence(SIX, "The image may become not openable.");
        for (int n = 0; n <= 71; n++) {
            ZipRecover x = Zips.busy();
            Check.due("isOpenable()", x.isOpenable(), true);
            x.truncate(n);
            Check.due("isOpenable() at " + n, x.isOpenable(), n == 9 || n == 71);
            Check.due("sizeOf(3) at " + n, x.sizeOf(3), n == 71 ? 3 : -1);
        }
    }
}
