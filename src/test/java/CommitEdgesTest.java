/** The boundary cases that promise 5 names, a test for each sentence. */
final class CommitEdgesTest {
    private static final String FIVE = "Promise 5";

    public static void main(String[] args) {
        nonePending();
        notOpenable();
        overCapacity();
        needed();
        shadowedCount();
        orderOfTests();
        keptRecords();
        lastEntryWins();
        startsAtLength();
        localRecords();
        ascendingNames();
        fieldsOfTheLocalRecord();
        offsets();
        endRecord();
        answer();
        oldBytesStay();
        openableAfterwards();
        foundAndCapacityStay();
        Check.end();
    }

    private static void dueRefused(String when, ZipRecover x, int code) {
        Zips.dueUnchanged("commit() " + when, x, () -> x.commit(), code);
    }

    /** Names 3 and 7, of 3 and 2 bytes; the length is 71. */
    private static ZipRecover two(int capacity) {
        ZipRecover x = new ZipRecover(capacity);
        Zips.stage(x, 7, 104, 105);
        Zips.stage(x, 3, 1, 2, 3);
        Check.due("commit()", x.commit(), 71);
        return x;
    }

    private static void nonePending() {
        Check.sentence(FIVE, "If there is no pending entry, it answers `ERR_EMPTY`.");
        ZipRecover x = new ZipRecover(64);
        dueRefused("on a fresh object", x, ZipRecover.ERR_EMPTY);
        Zips.stage(x, 1);
        Check.due("commit() of one entry without data", x.commit(), 42);
        dueRefused("after commit", x, ZipRecover.ERR_EMPTY);
        Zips.stage(x, 1);
        x.discard();
        dueRefused("after discard", x, ZipRecover.ERR_EMPTY);
        x.add(-1);
        x.put(1);
        dueRefused("after a refused add", x, ZipRecover.ERR_EMPTY);
    }

    private static void notOpenable() {
        Check.sentence(FIVE, "If the image is not openable, it answers `ERR_DAMAGED`.");
        for (int length = 0; length <= 71; length++) {
            ZipRecover x = two(256);
            x.truncate(length);
            Zips.stage(x, 9);
            if (length == 9 || length == 71) {
                Check.due("commit() at " + length, x.commit(), length + 11 + (length == 9 ? 13 : 39) + 9);
            } else {
                dueRefused("at " + length, x, ZipRecover.ERR_DAMAGED);
            }
        }
        // Damage in a local header counts too, and once it is mended the entries are still pending.
        ZipRecover x = two(256);
        Zips.stage(x, 9, 5);
        x.poke(9, 0);
        dueRefused("with a damaged record", x, ZipRecover.ERR_DAMAGED);
        x.poke(9, 0x50);
        Check.due("commit() after mending", x.commit(), 71 + 12 + 39 + 9);
        Check.due("dataAt(9, 0)", x.dataAt(9, 0), 5);
    }

    private static void overCapacity() {
        Check.sentence(FIVE, "If needed > capacity, it answers `ERR_FULL`.");
        for (int capacity : new int[] {64, 65, 100, 168, 169}) {
            ZipRecover over = new ZipRecover(capacity);
            Zips.stage(over, 1, Zips.filler(capacity + 1 - 42));
            dueRefused("of one byte too much for " + capacity, over, ZipRecover.ERR_FULL);
            ZipRecover fits = new ZipRecover(capacity);
            Zips.stage(fits, 1, Zips.filler(capacity - 42));
            Check.due("commit() that needs all of " + capacity, fits.commit(), capacity);
            Zips.stage(fits, 1);
            dueRefused("on a full image", fits, ZipRecover.ERR_FULL);
        }
        ZipRecover over = new ZipRecover(256);
        Check.due("commit() to 257", Zips.fillTo(over, 257), ZipRecover.ERR_FULL);
        Check.due("length()", over.length(), 102);
        Check.due("pendingInfo(0, 1)", over.pendingInfo(0, 1), 257 - 135);
        Check.due("commit() to 256", Zips.fillTo(new ZipRecover(256), 256), 256);
        // The most that can be pending: 9 + 8 * 11 + 128 + 8 * 13 + 9 = 338.
        ZipRecover most = new ZipRecover(256);
        for (int k = 0; k < 8; k++) {
            Zips.stage(most, k, Zips.filler(16));
        }
        dueRefused("of all that can be pending", most, ZipRecover.ERR_FULL);
    }

    private static void needed() {
        Check.sentence(FIVE, "Here needed = `length` + (sum over all pending entries of (11 + size)) + 13*m + 9, where m is the "
            + "number of records of the new directory.");
        // Names staged at the length 71 with 3 and 7 in the directory, and the m that comes of it.
        int[][] cases = {{2, 3}, {2, 7}, {3, 1}, {4, 1, 2}, {3, 1, 3}, {2, 3, 7}, {3, 1, 1}, {2, 7, 7, 7}, {4, 0, 255, 3}};
        for (int[] one : cases) {
            int m = one[0];
            int entries = one.length - 1;
            int need = 71 + 11 * entries + 5 + 13 * m + 9;
            for (int capacity = need - 1; capacity <= need; capacity++) {
                ZipRecover x = two(capacity);
                for (int k = 1; k <= entries; k++) {
                    Zips.stage(x, one[k]);
                }
                for (int n = 0; n < 5; n++) {
                    x.put(n);
                }
                if (capacity < need) {
                    dueRefused("that needs " + need + " of " + capacity, x, ZipRecover.ERR_FULL);
                } else {
                    Check.due("commit() that needs " + need, x.commit(), need);
                }
            }
        }
    }

    private static void shadowedCount() {
        Check.sentence(FIVE, "Every pending entry counts, including ones whose name is pending again later.");
        // 9 + 3 * 11 + 13 + 9 = 64; a byte in any of the three is one too many.
        for (int extra = -1; extra < 3; extra++) {
            ZipRecover x = new ZipRecover(64);
            for (int k = 0; k < 3; k++) {
                Zips.stage(x, 1, Zips.filler(k == extra ? 1 : 0));
            }
            if (extra < 0) {
                Check.due("commit() of three entries of a name", x.commit(), 64);
            } else {
                dueRefused("with a byte in entry " + extra, x, ZipRecover.ERR_FULL);
            }
        }
        // 9 + 8 * 11 + 128 + 13 + 9 = 247, with almost all data in the first entry, which is shadowed.
        for (int capacity = 246; capacity <= 247; capacity++) {
            ZipRecover x = new ZipRecover(capacity);
            Zips.stage(x, 1, Zips.filler(128));
            for (int k = 1; k < 8; k++) {
                Zips.stage(x, 1);
            }
            if (capacity == 246) {
                dueRefused("of 247 in 246", x, ZipRecover.ERR_FULL);
            } else {
                Check.due("commit() of 247 in 247", x.commit(), 247);
                Check.due("sizeOf(1)", x.sizeOf(1), 0);
            }
        }
    }

    private static void orderOfTests() {
        Check.sentence(FIVE, "The tests run in this order, and each refusal answers its code and changes nothing:");
        Check.due("ERR_EMPTY", ZipRecover.ERR_EMPTY, -1);
        Check.due("ERR_DAMAGED", ZipRecover.ERR_DAMAGED, -2);
        Check.due("ERR_FULL", ZipRecover.ERR_FULL, -3);
        ZipRecover x = new ZipRecover(64);
        Zips.stage(x, 1, Zips.filler(22));
        Check.due("commit()", x.commit(), 64);
        dueRefused("with nothing pending, full", x, -1);
        x.poke(63, 1);
        dueRefused("with nothing pending, full and damaged", x, -1);
        Zips.stage(x, 2, Zips.filler(128));
        dueRefused("of too much, damaged", x, -2);
        x.poke(63, 0);
        dueRefused("of too much", x, -3);
        dueRefused("of too much again", x, -3);
        x.truncate(9);
        x.discard();
        Zips.stage(x, 2, 5);
        Check.due("commit() of what fits", x.commit(), 43);
    }

    private static void keptRecords() {
        Check.sentence(FIVE, "the records of the current directory whose name is not pending;");
        int[][] cases = {{9}, {3}, {7}, {3, 7}, {3, 7, 9}};
        for (int[] names : cases) {
            ZipRecover x = two(256);
            for (int name : names) {
                Zips.stage(x, name, 60, 61, 62, 63);
            }
            x.commit();
            for (int name : new int[] {3, 7, 9}) {
                boolean pending = java.util.Arrays.stream(names).anyMatch(n -> n == name);
                int kept = name == 3 ? 3 : name == 7 ? 2 : -1;
                Check.due("sizeOf(" + name + ")", x.sizeOf(name), pending ? 4 : kept);
            }
        }
        // The names 0 to m - 1, or 1 to m, with the count m among them.
        for (int first = 0; first <= 1; first++) {
            for (int m = 1; m <= 3; m++) {
                ZipRecover x = new ZipRecover(256);
                for (int k = 0; k < m; k++) {
                    Zips.stage(x, first + k, k);
                }
                x.commit();
                Zips.stage(x, 200);
                x.commit();
                for (int k = 0; k < m; k++) {
                    Zips.dueDir(x, k, first + k, 1, Zips.crc(k), 9 + 12 * k);
                }
                Check.due("dirInfo(" + m + ", 0)", x.dirInfo(m, 0), 200);
                Check.due("dirInfo(" + (m + 1) + ", 0)", x.dirInfo(m + 1, 0), -1);
            }
        }
        // An empty directory has nothing to keep.
        ZipRecover empty = new ZipRecover(64);
        Zips.stage(empty, 0);
        empty.commit();
        Zips.dueDir(empty, 0, 0, 0, 0, 9);
        Check.due("dirInfo(1, 0)", empty.dirInfo(1, 0), -1);
    }

    private static void lastEntryWins() {
        Check.sentence(FIVE, "for each distinct pending name, its last pending entry (a later add wins).");
        ZipRecover x = new ZipRecover(256);
        for (int k = 0; k < 8; k++) {
            Zips.stage(x, 5, k);
        }
        Check.due("commit()", x.commit(), 9 + 8 * 12 + 13 + 9);
        Zips.dueDir(x, 0, 5, 1, Zips.crc(7), 9 + 7 * 12);
        Check.due("dirInfo(1, 0)", x.dirInfo(1, 0), -1);
        // The last one wins even if it has no data, and whatever stands between.
        Zips.stage(x, 5, 1, 2, 3);
        Zips.stage(x, 4);
        Zips.stage(x, 5);
        Check.due("commit()", x.commit(), 127 + 14 + 11 + 11 + 26 + 9);
        Zips.dueDir(x, 0, 4, 0, 0, 127 + 14);
        Zips.dueDir(x, 1, 5, 0, 0, 127 + 14 + 11);
    }

    private static void startsAtLength() {
        Check.sentence(FIVE, "Writing starts at P = `length`, just after the old end record, which stays in place.");
        ZipRecover x = two(256);
        int[] before = Zips.image(x);
        Zips.stage(x, 7);
        x.commit();
        Zips.dueImage("after an update", x, before, Zips.local(7), Zips.central(3, 22, 1, 2, 3), Zips.central(7, 71),
            Zips.end(2, 82));
        // After a cut the end is nearer, and what was there before is gone.
        x.truncate(9);
        Zips.stage(x, 1);
        x.commit();
        Zips.dueImage("after a cut and an update", x, Zips.end(0, 0), Zips.local(1), Zips.central(1, 9), Zips.end(1, 20));
    }

    private static void localRecords() {
        Check.sentence(FIVE, "For each pending entry in order of add, including shadowed ones, its local record is written at P, "
            + "with crc = CRC-32 of its data.");
        ZipRecover x = new ZipRecover(256);
        Zips.stage(x, 255, 255, 0);
        Zips.stage(x, 0);
        Zips.stage(x, 255, 0x31, 0x32, 0x33, 0x34, 0x35, 0x36, 0x37, 0x38, 0x39);
        Zips.stage(x, 255);
        x.commit();
        int[] locals = Zips.join(Zips.local(255, 255, 0), Zips.localHeader(0, 0, 0),
            Zips.localHeader(255, 9, 0xCBF43926L), Zips.bytes(0x31, 0x32, 0x33, 0x34, 0x35, 0x36, 0x37, 0x38, 0x39),
            Zips.localHeader(255, 0, 0));
        int directory = 9 + locals.length;
        Zips.dueImage("after commit", x, Zips.end(0, 0), locals, Zips.central(0, 22), Zips.central(255, directory - 11),
            Zips.end(2, directory));
        ZipRecover large = new ZipRecover(256);
        Zips.stage(large, 1, Zips.filler(128));
        large.commit();
        Zips.dueImage("after commit of 128 bytes", large, Zips.end(0, 0), Zips.local(1, Zips.filler(128)),
            Zips.central(1, 9, Zips.filler(128)), Zips.end(1, 148));
    }

    private static void ascendingNames() {
        Check.sentence(FIVE, "At D = P, the central records of the new directory are written in ascending name order.");
        int[] names = {128, 255, 0, 254, 127, 1};
        ZipRecover x = new ZipRecover(256);
        int[] locals = new int[0];
        for (int name : names) {
            Zips.stage(x, name);
            locals = Zips.join(locals, Zips.local(name));
        }
        Check.due("commit()", x.commit(), 9 + 66 + 78 + 9);
        Zips.dueImage("after commit", x, Zips.end(0, 0), locals, Zips.central(0, 31), Zips.central(1, 64), Zips.central(127, 53),
            Zips.central(128, 9), Zips.central(254, 42), Zips.central(255, 20), Zips.end(6, 75));
        // Kept and pending ones are sorted together.
        ZipRecover y = two(256);
        Zips.stage(y, 255);
        Zips.stage(y, 5);
        Zips.stage(y, 0);
        y.commit();
        for (int i = 0; i < 5; i++) {
            Check.due("dirInfo(" + i + ", 0)", y.dirInfo(i, 0), new int[] {0, 3, 5, 7, 255}[i]);
        }
    }

    private static void fieldsOfTheLocalRecord() {
        Check.sentence(FIVE, "Name, size and crc are as in the corresponding local record.");
        // A kept crc is copied, even where the data does not have it; a new one is computed.
        int[] locals = Zips.join(Zips.localHeader(0, 1, 0xFFFFFFFFL), Zips.bytes(9), Zips.localHeader(255, 0, 0x01020304L));
        ZipRecover x = Zips.holding(Zips.join(locals, Zips.centralOf(0, 1, 0xFFFFFFFFL, 0),
            Zips.centralOf(255, 0, 0x01020304L, 12), Zips.end(2, 23)));
        Zips.stage(x, 128, Zips.filler(128));
        Check.due("commit()", x.commit(), 58 + 139 + 39 + 9);
        Zips.dueDir(x, 0, 0, 1, 0xFFFFFFFFL, 0);
        Zips.dueDir(x, 1, 128, 128, Zips.crc(Zips.filler(128)), 58);
        Zips.dueDir(x, 2, 255, 0, 0x01020304L, 12);
    }

    private static void offsets() {
        Check.sentence(FIVE, "Offset is the old offset for kept records and the offset just written for pending ones.");
        ZipRecover x = two(256);
        Zips.stage(x, 7, 1);
        Zips.stage(x, 9, 2);
        x.commit();
        Zips.dueDir(x, 0, 3, 3, Zips.crc(1, 2, 3), 22);
        Zips.dueDir(x, 1, 7, 1, Zips.crc(1), 71);
        Zips.dueDir(x, 2, 9, 1, Zips.crc(2), 83);
        // A kept record at the offset 0, and the last offset that a commit can write: 256 - 9 - 13 - 11.
        ZipRecover far = Zips.holding(Zips.join(Zips.local(4), Zips.filler(190), Zips.central(4, 0), Zips.end(1, 201)));
        Zips.stage(far, 4);
        Check.due("commit()", far.commit(), 256);
        Zips.dueDir(far, 0, 4, 0, 0, 223);
        ZipRecover low = Zips.holding(Zips.join(Zips.local(4), Zips.central(4, 0), Zips.end(1, 11)));
        Zips.stage(low, 5);
        Check.due("commit()", low.commit(), 33 + 11 + 26 + 9);
        Zips.dueDir(low, 0, 4, 0, 0, 0);
        Zips.dueDir(low, 1, 5, 0, 0, 33);
    }

    private static void endRecord() {
        Check.sentence(FIVE, "An end record follows with count m, dirOffset D and dirSize 13*m.");
        for (int m = 1; m <= 8; m++) {
            ZipRecover x = new ZipRecover(256);
            for (int k = 0; k < m; k++) {
                Zips.stage(x, k);
            }
            int directory = 9 + 11 * m;
            int length = x.commit();
            Check.due("commit()", length, directory + 13 * m + 9);
            int[] end = {0x50, 0x4B, 5, 6, m, directory, 0, 13 * m, 0};
            for (int k = 0; k < 9; k++) {
                Check.due("byteAt of the end record " + k, x.byteAt(length - 9 + k), end[k]);
            }
        }
    }

    private static void answer() {
        Check.sentence(FIVE, "`length` becomes D + 13*m + 9, the pending list is emptied, and the answer is the new length.");
        ZipRecover x = two(104);
        Zips.stage(x, 3);
        Zips.stage(x, 7, 1);
        Check.due("commit() of more than 104", x.commit(), ZipRecover.ERR_FULL);
        Check.due("pendingInfo(1, 0)", x.pendingInfo(1, 0), 7);
        x.truncate(9);
        Check.due("commit()", x.commit(), 9 + 11 + 12 + 26 + 9);
        Check.due("length()", x.length(), 67);
        for (int k = 0; k < 8; k++) {
            Check.due("pendingInfo(" + k + ", 0)", x.pendingInfo(k, 0), -1);
        }
        Check.due("put(1)", x.put(1), false);
        for (int k = 0; k < 8; k++) {
            Check.due("add after commit", x.add(k), true);
        }
        for (int n = 0; n < 128; n++) {
            Check.due("put after commit", x.put(n), true);
        }
    }

    private static void oldBytesStay() {
        Check.sentence(FIVE, "No byte below the old `length` is changed.");
        ZipRecover x = two(256);
        x.poke(0, 99);
        x.poke(20, 0);
        int[] before = Zips.image(x);
        Zips.stage(x, 3, 9, 9, 9);
        Zips.stage(x, 7);
        x.commit();
        for (int pos = 0; pos < 71; pos++) {
            Check.due("byteAt(" + pos + ")", x.byteAt(pos), before[pos]);
        }
        Check.due("cut back", x.truncate(71), true);
        Zips.dueImage("cut back", x, before);
        Check.due("dataAt(7, 0)", x.dataAt(7, 0), 0);
    }

    private static void openableAfterwards() {
        Check.sentence(FIVE, "Afterwards the image is openable and its directory is the new directory.");
        // At the capacity, with the data of a kept record damaged.
        ZipRecover x = two(256);
        x.poke(35, 77);
        Zips.stage(x, 255, Zips.filler(126));
        Check.due("commit()", x.commit(), 256);
        Check.due("isOpenable()", x.isOpenable(), true);
        Zips.dueDir(x, 0, 3, 3, Zips.crc(1, 2, 3), 22);
        Zips.dueDir(x, 1, 7, 2, Zips.crc(104, 105), 9);
        Zips.dueDir(x, 2, 255, 126, Zips.crc(Zips.filler(126)), 71);
        Check.due("dirInfo(3, 0)", x.dirInfo(3, 0), -1);
        Check.due("dataAt(3, 2)", x.dataAt(3, 2), 77);
        // With data that looks like records, an end record last.
        ZipRecover y = new ZipRecover(256);
        Zips.stage(y, 1, Zips.join(Zips.local(2, 5), Zips.central(2, 20, 5), Zips.end(1, 32)));
        y.commit();
        Check.due("isOpenable()", y.isOpenable(), true);
        Check.due("sizeOf(1)", y.sizeOf(1), 34);
        Check.due("sizeOf(2)", y.sizeOf(2), -1);
    }

    private static void foundAndCapacityStay() {
        Check.sentence(FIVE, "The found list and capacity do not change.");
        ZipRecover x = Zips.busy();
        String found = Zips.found(x);
        Check.due("commit()", x.commit(), 71 + 12 + 39 + 9);
        Check.due("found", Zips.found(x), found);
        Zips.stage(x, 3, Zips.filler(128));
        Check.due("commit()", x.commit(), ZipRecover.ERR_FULL);
        Check.due("found", Zips.found(x), found);
        Zips.dueCapacity(x, 256);
        ZipRecover small = new ZipRecover(64);
        Zips.stage(small, 1, Zips.filler(22));
        small.commit();
        Check.due("foundInfo(0, 0)", small.foundInfo(0, 0), -1);
        Zips.dueCapacity(small, 64);
    }
}
