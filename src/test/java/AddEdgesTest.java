/** The boundary cases that promise 2 names, a test for each sentence. */
final class AddEdgesTest {
    private static final String TWO = "Promise 2";

    public static void main(String[] args) {
        noData();
        wrongName();
        eightPending();
        refusalChangesNothing();
        appendedAtTheEnd();
        nameTwice();
        putExtendsTheNewOne();
        restStays();
        Check.end();
    }

    /** An object with this many entries pending, the k-th with the name 10 + k and one byte. */
    private static ZipRecover withPending(int count) {
        ZipRecover x = new ZipRecover(256);
        for (int k = 0; k < count; k++) {
            Zips.stage(x, 10 + k, k);
        }
        return x;
    }

    private static void noData() {
        Check.sentence(TWO, "`add(int name)` starts a new pending entry with this name and no data.");
        for (int name : new int[] {0, 1, 127, 128, 254, 255}) {
            ZipRecover x = new ZipRecover(64);
            Check.due("add(" + name + ")", x.add(name), true);
            Check.due("pendingInfo(0, INFO_NAME)", x.pendingInfo(0, ZipRecover.INFO_NAME), name);
            Check.due("pendingInfo(0, INFO_SIZE)", x.pendingInfo(0, ZipRecover.INFO_SIZE), 0);
            Check.due("pendingInfo(0, INFO_CRC)", x.pendingInfo(0, ZipRecover.INFO_CRC), 0);
        }
    }

    private static void wrongName() {
        Check.sentence(TWO, "If `name < 0` or `name > 255`, it answers false.");
        ZipRecover x = new ZipRecover(64);
        Check.due("add(0)", x.add(0), true);
        Check.due("add(255)", x.add(255), true);
        for (int name : Zips.NOT_BYTES) {
            Zips.dueUnchanged("add(" + name + ")", x, () -> x.add(name), false);
            ZipRecover fresh = new ZipRecover(64);
            Zips.dueUnchanged("add(" + name + ") first", fresh, () -> fresh.add(name), false);
        }
    }

    private static void eightPending() {
        Check.sentence(TWO, "Otherwise, if 8 entries are already pending, it answers false.");
        ZipRecover x = withPending(7);
        Check.due("the eighth add", x.add(0), true);
        for (int name : new int[] {0, 1, 10, 255}) {
            Zips.dueUnchanged("a ninth add(" + name + ")", x, () -> x.add(name), false);
        }
        x.discard();
        for (int k = 0; k < 8; k++) {
            Check.due("add after discard", x.add(255), true);
        }
        Zips.dueUnchanged("a ninth add after discard", x, () -> x.add(255), false);
        Check.due("commit()", x.commit(), 9 + 8 * 11 + 13 + 9);
        for (int k = 0; k < 8; k++) {
            Check.due("add after commit", x.add(k), true);
        }
        Zips.dueUnchanged("a ninth add after commit", x, () -> x.add(8), false);
        // A refused commit leaves all eight pending.
        x.truncate(0);
        Check.due("commit()", x.commit(), ZipRecover.ERR_DAMAGED);
        Zips.dueUnchanged("a ninth add after a refused commit", x, () -> x.add(8), false);
    }

    private static void refusalChangesNothing() {
        Check.sentence(TWO, "On a refusal nothing changes.");
        for (int count : new int[] {1, 7, 8}) {
            ZipRecover x = withPending(count);
            Zips.dueUnchanged("add(256)", x, () -> x.add(256), false);
            Zips.dueUnchanged("add(-1)", x, () -> x.add(-1), false);
            if (count == 8) {
                Zips.dueUnchanged("a ninth add", x, () -> x.add(1), false);
            }
            // The entry that was the most recent one still is.
            Check.due("put(77)", x.put(77), true);
            Check.due("size of the last", x.pendingInfo(count - 1, 1), 2);
            Check.due("crc of the last", x.pendingInfo(count - 1, 2), Zips.crc(count - 1, 77));
            Zips.dueCapacity(x, 256);
        }
    }

    private static void appendedAtTheEnd() {
        Check.sentence(TWO, "Otherwise the entry is appended at the end of the pending list and the answer is true.");
        ZipRecover x = new ZipRecover(256);
        int[] names = {200, 0, 255, 1, 254, 128, 127, 64};
        for (int k = 0; k < 8; k++) {
            Check.due("pendingInfo(" + k + ", 0) before", x.pendingInfo(k, 0), -1);
            Check.due("add number " + k, x.add(names[k]), true);
            for (int j = 0; j <= k; j++) {
                Check.due("pendingInfo(" + j + ", 0)", x.pendingInfo(j, 0), names[j]);
            }
        }
        Check.due("pendingInfo(8, 0)", x.pendingInfo(8, 0), -1);
    }

    private static void nameTwice() {
        Check.sentence(TWO, "A name may be pending more than once; each `add` makes a separate entry.");
        ZipRecover x = new ZipRecover(256);
        for (int k = 0; k < 8; k++) {
            Zips.stage(x, 5, Zips.filler(k));
        }
        for (int k = 0; k < 8; k++) {
            Check.due("pendingInfo(" + k + ", 0)", x.pendingInfo(k, 0), 5);
            Check.due("pendingInfo(" + k + ", 1)", x.pendingInfo(k, 1), k);
            Check.due("pendingInfo(" + k + ", 2)", x.pendingInfo(k, 2), Zips.crc(Zips.filler(k)));
        }
    }

    private static void putExtendsTheNewOne() {
        Check.sentence(TWO, "The new entry becomes the most recently added one, which later `put` calls extend.");
        ZipRecover x = new ZipRecover(256);
        for (int k = 0; k < 8; k++) {
            Check.due("add(3)", x.add(3), true);
            Check.due("put(" + k + ")", x.put(k), true);
            Check.due("put(255)", x.put(255), true);
            for (int j = 0; j <= k; j++) {
                Check.due("size of entry " + j, x.pendingInfo(j, 1), 2);
                Check.due("crc of entry " + j, x.pendingInfo(j, 2), Zips.crc(j, 255));
            }
        }
    }

    private static void restStays() {
        Check.sentence(TWO, "The image, `length`, capacity and found list do not change.");
        ZipRecover x = Zips.busy();
        int[] image = Zips.image(x);
        String found = Zips.found(x);
        for (int name : new int[] {0, 3, 7, 255}) {
            Check.due("add(" + name + ")", x.add(name), true);
            Check.due("length()", x.length(), 71);
            Zips.dueImage("after add", x, image);
            Check.due("found after add", Zips.found(x), found);
        }
        Zips.dueCapacity(x, 256);
        ZipRecover small = new ZipRecover(64);
        small.add(1);
        Zips.dueCapacity(small, 64);
    }
}
