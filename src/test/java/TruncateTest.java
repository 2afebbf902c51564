/** Promise 6: truncate. */
final class TruncateTest {
    public static void main(String[] args) {
        refusals();
        everyLength();
        olderVersion();
        keepsTheRest();
        Check.end();
    }

    private static void refusals() {
        ZipRecover x = Zips.busy();
        String before = Zips.state(x);
        for (int n : new int[] {-1, -71, 72, 256, 257, Integer.MIN_VALUE, Integer.MAX_VALUE}) {
            Check.due("truncate(" + n + ")", x.truncate(n), false);
            Check.due("state after truncate(" + n + ")", Zips.state(x), before);
        }
        Check.due("truncate(71)", x.truncate(71), true);
        Check.due("state after truncate(71)", Zips.state(x), before);
        Check.due("truncate(30)", x.truncate(30), true);
        Check.due("truncate(31), back up", x.truncate(31), false);
        Check.due("length()", x.length(), 30);
        Check.due("truncate(0)", x.truncate(0), true);
        Check.due("truncate(0)", x.truncate(0), true);
        Check.due("truncate(1)", x.truncate(1), false);
        Check.due("length()", x.length(), 0);
        Check.due("isOpenable()", x.isOpenable(), false);
    }

    private static void everyLength() {
        ZipRecover x = Zips.busy();
        int[] image = Zips.image(x);
        String pending = Zips.pending(x);
        String found = Zips.found(x);
        for (int n = 71; n >= 0; n--) {
            Check.due("truncate(" + n + ")", x.truncate(n), true);
            Check.due("length()", x.length(), n);
            for (int pos = 0; pos < 72; pos++) {
                Check.due("byteAt(" + pos + ") of " + n, x.byteAt(pos), pos < n ? image[pos] : -1);
            }
            Check.due("isOpenable() at " + n, x.isOpenable(), n == 71 || n == 9);
            Check.due("pending", Zips.pending(x), pending);
            Check.due("found", Zips.found(x), found);
        }
    }

    private static void olderVersion() {
        ZipRecover x = new ZipRecover(256);
        Zips.stage(x, 1, 11);
        x.commit();
        Zips.stage(x, 1, 12, 13);
        x.commit();
        Check.due("sizeOf(1)", x.sizeOf(1), 2);
        Check.due("truncate(43)", x.truncate(43), true);
        Check.due("isOpenable()", x.isOpenable(), true);
        Check.due("sizeOf(1)", x.sizeOf(1), 1);
        Check.due("dataAt(1, 0)", x.dataAt(1, 0), 11);
    }

    private static void keepsTheRest() {
        // The capacity is still 64, and what was cut off does not come back.
        ZipRecover x = new ZipRecover(64);
        Zips.stage(x, 1, Zips.filler(22));
        x.commit();
        Check.due("truncate(9)", x.truncate(9), true);
        Zips.stage(x, 2, Zips.filler(23));
        Check.due("commit() of 65 bytes", x.commit(), ZipRecover.ERR_FULL);
        x.discard();
        Zips.stage(x, 2, 1);
        Check.due("commit()", x.commit(), 43);
        Zips.dueImage("after commit", x, Zips.end(0, 0), Zips.local(2, 1), Zips.central(2, 9, 1), Zips.end(1, 21));
    }
}
