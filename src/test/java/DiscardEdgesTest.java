/** The boundary cases that promise 4 names, a test for each sentence. */
final class DiscardEdgesTest {
    private static final String FOUR = "Promise 4";

    public static void main(String[] args) {
        empties();
        inEveryState();
        restStays();
        Check.end();
    }

    private static void dueNonePending(ZipRecover x) {
        for (int k = 0; k < 8; k++) {
            for (int what = 0; what < 3; what++) {
                Check.due("pendingInfo(" + k + ", " + what + ")", x.pendingInfo(k, what), -1);
            }
        }
        Check.due("put(1)", x.put(1), false);
        Check.due("commit()", x.commit(), ZipRecover.ERR_EMPTY);
    }

    private static void empties() {
        Check.sentence(FOUR, "`discard()` empties the pending list.");
        for (int count = 1; count <= 8; count++) {
            ZipRecover x = new ZipRecover(256);
            for (int k = 0; k < count; k++) {
                Zips.stage(x, k, Zips.filler(128 / count));
            }
            x.discard();
            dueNonePending(x);
            // All eight places and all 128 bytes are free again, and no old byte comes back.
            for (int k = 0; k < 8; k++) {
                Zips.stage(x, 50 + k);
                Check.due("crc of a new entry", x.pendingInfo(k, 2), 0);
            }
            for (int n = 0; n < 128; n++) {
                Check.due("put number " + n, x.put(n), true);
            }
        }
    }

    private static void inEveryState() {
        Check.sentence(FOUR, "It does this in every state, including when the list is already empty.");
        ZipRecover fresh = new ZipRecover(64);
        String before = Zips.state(fresh);
        fresh.discard();
        fresh.discard();
        Check.due("state", Zips.state(fresh), before);
        dueNonePending(fresh);

        ZipRecover refused = new ZipRecover(64);
        Zips.stage(refused, 1, Zips.filler(23));
        Check.due("commit()", refused.commit(), ZipRecover.ERR_FULL);
        refused.discard();
        dueNonePending(refused);

        for (int length : new int[] {70, 9, 8, 0}) {
            ZipRecover cut = Zips.busy();
            cut.truncate(length);
            cut.discard();
            dueNonePending(cut);
            cut.discard();
            dueNonePending(cut);
            Check.due("length()", cut.length(), length);
        }
    }

    private static void restStays() {
        Check.sentence(FOUR, "Nothing else changes: not the image, `length`, capacity or found list.");
        for (int length : new int[] {71, 70, 9, 0}) {
            ZipRecover x = Zips.busy();
            x.truncate(length);
            int[] image = Zips.image(x);
            String found = Zips.found(x);
            String directory = Zips.directory(x);
            x.discard();
            Check.due("length()", x.length(), length);
            Zips.dueImage("after discard", x, image);
            Check.due("found", Zips.found(x), found);
            Check.due("directory", Zips.directory(x), directory);
            Zips.dueCapacity(x, 256);
        }
        ZipRecover small = new ZipRecover(64);
        small.add(1);
        small.discard();
        Zips.dueCapacity(small, 64);
    }
}
