/** Promise 4: discard. */
final class DiscardTest {
    public static void main(String[] args) {
        onEmpty();
        onPending();
        onFull();
        onDamaged();
        Check.end();
    }

    private static void onEmpty() {
        ZipRecover x = new ZipRecover(64);
        String before = Zips.state(x);
        x.discard();
        x.discard();
        Check.due("state", Zips.state(x), before);
    }

    private static void onPending() {
        ZipRecover x = Zips.busy();
        int[] image = Zips.image(x);
        String found = Zips.found(x);
        String directory = Zips.directory(x);
        x.discard();
        Check.due("pendingInfo(0, 0)", x.pendingInfo(0, 0), -1);
        Check.due("commit()", x.commit(), ZipRecover.ERR_EMPTY);
        Check.due("put(1)", x.put(1), false);
        Zips.dueImage("after discard", x, image);
        Check.due("found", Zips.found(x), found);
        Check.due("directory", Zips.directory(x), directory);
        Zips.stage(x, 1);
        Check.due("size of a new entry", x.pendingInfo(0, 1), 0);
        Check.due("crc of a new entry", x.pendingInfo(0, 2), 0);
    }

    private static void onFull() {
        ZipRecover x = new ZipRecover(64);
        for (int k = 0; k < 8; k++) {
            Zips.stage(x, k, Zips.filler(16));
        }
        x.discard();
        for (int k = 0; k < 8; k++) {
            Check.due("pendingInfo(" + k + ", 0)", x.pendingInfo(k, 0), -1);
        }
        for (int k = 0; k < 8; k++) {
            Zips.stage(x, k, Zips.filler(16));
        }
        x.discard();
        // The capacity is as before: 64 is reached, and 65 is not.
        Zips.stage(x, 1, Zips.filler(23));
        Check.due("commit() for 65 bytes", x.commit(), ZipRecover.ERR_FULL);
        x.discard();
        Zips.stage(x, 1, Zips.filler(22));
        Check.due("commit() for 64 bytes", x.commit(), 64);
    }

    private static void onDamaged() {
        ZipRecover x = Zips.busy();
        x.truncate(70);
        int[] image = Zips.image(x);
        x.discard();
        Check.due("pendingInfo(0, 0)", x.pendingInfo(0, 0), -1);
        Zips.dueImage("after discard", x, image);
        Check.due("isOpenable()", x.isOpenable(), false);
    }
}
