/** Promise 5: commit. */
final class CommitTest {
    public static void main(String[] args) {
        refusals();
        literalImage();
        update();
        shadowedPending();
        exactFit();
        exactFitOfUpdate();
        shadowedEntriesCount();
        fullDirectory();
        crowdedDirectory();
        keptCrcIsNotComputedAgain();
        afterCutToOlderVersion();
        leavesFoundList();
        Check.end();
    }

    private static void refusals() {
        ZipRecover x = Zips.busy();
        x.discard();
        String before = Zips.state(x);
        Check.due("commit() with nothing pending", x.commit(), -1);
        Check.due("state", Zips.state(x), before);
        x.truncate(70);
        before = Zips.state(x);
        Check.due("commit() with nothing pending, damaged", x.commit(), -1);
        Check.due("state", Zips.state(x), before);
        Zips.stage(x, 1, 2);
        before = Zips.state(x);
        Check.due("commit() while damaged", x.commit(), -2);
        Check.due("state", Zips.state(x), before);

        ZipRecover full = new ZipRecover(64);
        Zips.stage(full, 1, Zips.filler(100));
        before = Zips.state(full);
        Check.due("commit() of too much", full.commit(), -3);
        Check.due("state", Zips.state(full), before);
        full.poke(4, 1);
        before = Zips.state(full);
        Check.due("commit() of too much while damaged", full.commit(), -2);
        Check.due("state", Zips.state(full), before);
        full.poke(4, 0);
        Check.due("commit() of too much", full.commit(), -3);

        ZipRecover empty = Zips.holding(Zips.bytes());
        Zips.stage(empty, 1);
        Check.due("commit() on an image of length 0", empty.commit(), -2);
        Check.due("length()", empty.length(), 0);
    }

    private static void literalImage() {
        ZipRecover x = new ZipRecover(256);
        Zips.stage(x, 7, 104, 105);
        Zips.stage(x, 3, 1, 2, 3);
        Check.due("commit()", x.commit(), 71);
        int[] image = {
            0x50, 0x4B, 5, 6, 0, 0, 0, 0, 0,
            0x50, 0x4B, 3, 4, 7, 2, 0, 0xAC, 0x2A, 0x93, 0xD8, 104, 105,
            0x50, 0x4B, 3, 4, 3, 3, 0, 0x1D, 0x80, 0xBC, 0x55, 1, 2, 3,
            0x50, 0x4B, 1, 2, 3, 3, 0, 0x1D, 0x80, 0xBC, 0x55, 22, 0,
            0x50, 0x4B, 1, 2, 7, 2, 0, 0xAC, 0x2A, 0x93, 0xD8, 9, 0,
            0x50, 0x4B, 5, 6, 2, 36, 0, 26, 0};
        Zips.dueImage("after commit", x, image);
        Check.due("pendingInfo(0, 0)", x.pendingInfo(0, 0), -1);
        Check.due("isOpenable()", x.isOpenable(), true);
        Check.due("commit() again", x.commit(), ZipRecover.ERR_EMPTY);
    }

    private static void update() {
        ZipRecover x = new ZipRecover(256);
        Zips.stage(x, 255, 10);
        Zips.stage(x, 0, 20, 21);
        Zips.stage(x, 128);
        x.commit();
        int[] before = Zips.image(x);
        Check.due("length()", before.length, 9 + 12 + 13 + 11 + 39 + 9);
        Zips.stage(x, 127, 40);
        Zips.stage(x, 0, 50, 51, 52);
        int start = before.length;
        int directory = start + 12 + 14;
        Check.due("commit()", x.commit(), directory + 4 * 13 + 9);
        Zips.dueImage("after an update", x, before, Zips.local(127, 40), Zips.local(0, 50, 51, 52),
            Zips.central(0, start + 12, 50, 51, 52), Zips.central(127, start, 40), Zips.central(128, 34),
            Zips.central(255, 9, 10), Zips.end(4, directory));
        Zips.dueDir(x, 0, 0, 3, Zips.crc(50, 51, 52), start + 12);
        Zips.dueDir(x, 1, 127, 1, Zips.crc(40), start);
        Zips.dueDir(x, 2, 128, 0, 0, 34);
        Zips.dueDir(x, 3, 255, 1, Zips.crc(10), 9);
        Check.due("dirInfo(4, 0)", x.dirInfo(4, 0), -1);
        Check.due("dataAt(0, 0)", x.dataAt(0, 0), 50);
        Check.due("dataAt(255, 0)", x.dataAt(255, 0), 10);
    }

    private static void shadowedPending() {
        ZipRecover x = new ZipRecover(256);
        Zips.stage(x, 5, 1);
        Zips.stage(x, 4, 2);
        Zips.stage(x, 5, 3, 3);
        Zips.stage(x, 5);
        Zips.stage(x, 4, 6, 7);
        int directory = 9 + 12 + 12 + 13 + 11 + 13;
        Check.due("commit()", x.commit(), directory + 26 + 9);
        Zips.dueImage("after commit", x, Zips.end(0, 0), Zips.local(5, 1), Zips.local(4, 2), Zips.local(5, 3, 3),
            Zips.local(5), Zips.local(4, 6, 7), Zips.central(4, 57, 6, 7), Zips.central(5, 46), Zips.end(2, directory));
        Check.due("sizeOf(5)", x.sizeOf(5), 0);
        Check.due("sizeOf(4)", x.sizeOf(4), 2);
    }

    private static void exactFit() {
        for (int capacity = 64; capacity <= 169; capacity++) {
            ZipRecover x = new ZipRecover(capacity);
            Zips.stage(x, 1, Zips.filler(capacity - 41));
            String before = Zips.state(x);
            Check.due("commit() one byte over " + capacity, x.commit(), ZipRecover.ERR_FULL);
            Check.due("state", Zips.state(x), before);
            x.discard();
            Zips.stage(x, 1, Zips.filler(capacity - 42));
            Check.due("commit() just up to " + capacity, x.commit(), capacity);
            Check.due("isOpenable()", x.isOpenable(), true);
            Check.due("sizeOf(1)", x.sizeOf(1), capacity - 42);
        }
    }

    private static void exactFitOfUpdate() {
        // 71 + (11 + z) + 13 * m + 9, where m is 2 for a name of the directory and 3 for a new one.
        for (int name = 6; name <= 8; name++) {
            int size = name == 7 ? 139 - 71 - 20 - 26 : 139 - 71 - 20 - 39;
            ZipRecover x = new ZipRecover(139);
            Zips.stage(x, 7, 104, 105);
            Zips.stage(x, 3, 1, 2, 3);
            x.commit();
            Zips.stage(x, name, Zips.filler(size + 1));
            String before = Zips.state(x);
            Check.due("commit() one byte over", x.commit(), ZipRecover.ERR_FULL);
            Check.due("state", Zips.state(x), before);
            x.discard();
            Zips.stage(x, name, Zips.filler(size));
            Check.due("commit() just up to the capacity", x.commit(), 139);
            Check.due("sizeOf(3)", x.sizeOf(3), 3);
            Check.due("sizeOf(7)", x.sizeOf(7), name == 7 ? size : 2);
            Check.due("sizeOf(name)", x.sizeOf(name), size);
            Check.due("isOpenable()", x.isOpenable(), true);
        }
    }

    private static void shadowedEntriesCount() {
        // 9 + 3 * 11 + 13 + 9 = 64
        ZipRecover x = new ZipRecover(64);
        Zips.stage(x, 1);
        Zips.stage(x, 1);
        Zips.stage(x, 1);
        Check.due("commit() of three entries of a name", x.commit(), 64);
        ZipRecover over = new ZipRecover(64);
        Zips.stage(over, 1, 2);
        Zips.stage(over, 1);
        Zips.stage(over, 1);
        Check.due("commit() of one byte more", over.commit(), ZipRecover.ERR_FULL);
    }

    private static void fullDirectory() {
        // 8 names: 9 + 8 * 11 + 8 * 13 + 9 = 210.
        ZipRecover x = new ZipRecover(210);
        for (int k = 0; k < 8; k++) {
            Zips.stage(x, 200 - k);
        }
        Check.due("commit() of 8 names", x.commit(), 210);
        for (int i = 0; i < 8; i++) {
            Zips.dueDir(x, i, 193 + i, 0, 0, 9 + 11 * (7 - i));
        }
        ZipRecover less = new ZipRecover(209);
        for (int k = 0; k < 8; k++) {
            Zips.stage(less, 200 - k);
        }
        Check.due("commit() of 8 names in 209 bytes", less.commit(), ZipRecover.ERR_FULL);
    }

    private static void crowdedDirectory() {
        // No directory has more names: 12 * 7 + 4 + 12 * 13 + 9 = 253.
        int[] image = Zips.crowded(12);
        ZipRecover most = Zips.holding(image);
        Check.due("isOpenable()", most.isOpenable(), true);
        for (int k = 0; k < 8; k++) {
            Zips.stage(most, 100 + k);
        }
        Check.due("commit() to a crowded image", most.commit(), ZipRecover.ERR_FULL);
        Zips.dueImage("after a refused commit", most, image);

        // 39 + 65 + 9 = 113
        int[] five = Zips.crowded(5);
        ZipRecover x = Zips.holding(five);
        Zips.stage(x, 2, 8);
        Check.due("commit() to a crowded image", x.commit(), 113 + 12 + 65 + 9);
        Zips.dueImage("after an update of overlapping records", x, five, Zips.local(2, 8),
            Zips.centralOf(0, 0, 0x04034B50L, 0), Zips.centralOf(1, 0, 0x04034B50L, 7), Zips.central(2, 113, 8),
            Zips.centralOf(3, 0, 0x04034B50L, 21), Zips.centralOf(4, 0, 0x04034B50L, 28), Zips.end(5, 125));
        Check.due("isOpenable()", x.isOpenable(), true);
    }

    private static void keptCrcIsNotComputedAgain() {
        ZipRecover x = new ZipRecover(256);
        Zips.stage(x, 7, 104, 105);
        Zips.stage(x, 3, 1, 2, 3);
        x.commit();
        x.poke(33, 99);
        Zips.stage(x, 9);
        Check.due("commit()", x.commit(), 71 + 11 + 39 + 9);
        Zips.dueDir(x, 0, 3, 3, Zips.crc(1, 2, 3), 22);
        Check.due("dataAt(3, 0)", x.dataAt(3, 0), 99);
    }

    private static void afterCutToOlderVersion() {
        ZipRecover x = new ZipRecover(256);
        Zips.stage(x, 1, 11);
        Check.due("commit()", x.commit(), 43);
        Zips.stage(x, 1, 12, 13);
        Zips.stage(x, 2, 14);
        x.commit();
        x.truncate(43);
        Zips.stage(x, 3, 15);
        Check.due("commit()", x.commit(), 43 + 12 + 26 + 9);
        Zips.dueImage("after commit on an older version", x, Zips.end(0, 0), Zips.local(1, 11), Zips.central(1, 9, 11),
            Zips.end(1, 21), Zips.local(3, 15), Zips.central(1, 9, 11), Zips.central(3, 43, 15), Zips.end(2, 55));
        Check.due("sizeOf(2)", x.sizeOf(2), -1);
    }

    private static void leavesFoundList() {
        ZipRecover x = Zips.busy();
        String found = Zips.found(x);
        Check.due("commit()", x.commit(), 71 + 12 + 39 + 9);
        Check.due("found", Zips.found(x), found);
    }
}
