/** The boundary cases that promises 9, 10 and 12 to 16 name, a test for each sentence. */
final class QueryEdgesTest {
    private static final int NAME = ZipRecover.INFO_NAME;
    private static final int SIZE = ZipRecover.INFO_SIZE;
    private static final int CRC = ZipRecover.INFO_CRC;
    private static final int OFFSET = ZipRecover.INFO_OFFSET;

    public static void main(String[] args) {
        length();
        byteAt();
        byteAtOutside();
        dirInfoFields();
        dirInfoNameAndSize();
        dirInfoCrcAndOffset();
        dirInfoRefused();
        sizeOf();
        sizeOfUnknown();
        sizeOfNoByte();
        dataAt();
        dataAtNotOpenable();
        dataAtUnknown();
        dataAtOutside();
        pendingSizeAndCrc();
        pendingInfoRefused();
        pendingOffset();
        foundInfo();
        foundInfoRefused();
        foundInfoAtFirst();
        changeNothing();
        Check.end();
    }

    private static void length() {
        Check.sentence("Promise 9", "`length()` answers the current image length.");
        ZipRecover x = new ZipRecover(64);
        Check.due("length() at first", x.length(), 9);
        Zips.stage(x, 1, Zips.filler(22));
        Check.due("length() with an entry pending", x.length(), 9);
        x.commit();
        Check.due("length() at the capacity", x.length(), 64);
        x.truncate(0);
        Check.due("length() of nothing", x.length(), 0);
        x.salvage();
        Check.due("length() after salvage", x.length(), 9);
        Check.due("length() at the greatest capacity", Zips.holding(Zips.filler(256)).length(), 256);
    }

    private static void byteAt() {
        Check.sentence("Promise 10", "`byteAt(int pos)` answers `image[pos]` as 0..255.");
        int[] image = new int[256];
        for (int pos = 0; pos < 256; pos++) {
            image[pos] = 255 - pos;
        }
        ZipRecover x = Zips.holding(image);
        for (int pos = 0; pos < 256; pos++) {
            Check.due("byteAt(" + pos + ")", x.byteAt(pos), 255 - pos);
        }
    }

    private static void byteAtOutside() {
        Check.sentence("Promise 10", "It answers -1 if `pos < 0` or `pos >= length`.");
        for (int length : new int[] {256, 255, 10, 9, 1, 0}) {
            ZipRecover x = Zips.holding(Zips.filler(256));
            x.truncate(length);
            for (int pos : new int[] {-1, -2, length, length + 1, 256, 65536, Integer.MIN_VALUE, Integer.MAX_VALUE}) {
                Check.due("byteAt(" + pos + ") of " + length, x.byteAt(pos), -1);
            }
            if (length > 0) {
                Check.due("byteAt(0)", x.byteAt(0), 0xA5);
                Check.due("byteAt(length - 1)", x.byteAt(length - 1), 0xA5);
            }
        }
    }

    private static void dirInfoFields() {
        Check.sentence("Promise 12", "`dirInfo(int i, int what)` answers a field of the i-th directory record (0-based):");
        int[] data = Zips.filler(180);
        int[] image = Zips.join(Zips.local(0, data), Zips.localHeader(255, 0, 0xFFFFFFFFL), Zips.central(0, 0, data),
            Zips.centralOf(255, 0, 0xFFFFFFFFL, 191), Zips.end(2, 202));
        ZipRecover x = Zips.holding(image);
        Zips.dueDir(x, 0, 0, 180, Zips.crc(data), 0);
        Zips.dueDir(x, 1, 255, 0, 4294967295L, 191);
        ZipRecover low = Zips.holding(Zips.join(Zips.local(0), Zips.central(0, 0), Zips.end(1, 11)));
        Zips.dueDir(low, 0, 0, 0, 0, 0);
    }

    /** An object whose directory has one record of this name, size and crc, at the end of an image of this length. */
    private static ZipRecover listing(int name, int size, long crc, int length) {
        int offset = length - 9 - 13 - 11 - size;
        return Zips.holding(Zips.join(Zips.filler(offset), Zips.localHeader(name, size, crc), Zips.filler(size),
            Zips.centralOf(name, size, crc, offset), Zips.end(1, length - 22)));
    }

    private static void dirInfoNameAndSize() {
        Check.sentence("Promise 12", "`INFO_NAME`: its name;");
        for (int name : new int[] {0, 1, 127, 128, 255}) {
            Check.due("dirInfo(0, NAME)", listing(name, 0, 0, 33).dirInfo(0, NAME), name);
        }
        Check.sentence("Promise 12", "`INFO_SIZE`: its size;");
        for (int size : new int[] {0, 1, 127, 128, 223}) {
            Check.due("dirInfo(0, SIZE)", listing(1, size, 0, 256).dirInfo(0, SIZE), size);
        }
    }

    private static void dirInfoCrcAndOffset() {
        Check.sentence("Promise 12", "`INFO_CRC`: its crc, 0..4294967295;");
        for (long crc : new long[] {0, 1, 255, 256, 65535, 65536, 0x7FFFFFFFL, 0x80000000L, 4294967294L, 4294967295L}) {
            Check.due("dirInfo(0, CRC)", listing(1, 0, crc, 33).dirInfo(0, CRC), crc);
        }
        Check.sentence("Promise 12", "`INFO_OFFSET`: its local record's offset.");
        for (int offset : new int[] {0, 1, 127, 128, 223}) {
            Check.due("dirInfo(0, OFFSET)", listing(1, 0, 0, 33 + offset).dirInfo(0, OFFSET), offset);
        }
    }

    private static void dirInfoRefused() {
        Check.sentence("Promise 12", "It answers -1 if the image is not openable, if `i < 0` or `i >= count`, or if `what` is none "
            + "of these four.");
        for (int count : new int[] {0, 1, 2, 12}) {
            ZipRecover x = Zips.holding(Zips.crowded(count));
            for (int what = NAME; what <= OFFSET; what++) {
                for (int i : new int[] {-1, -2, count, count + 1, 255, 256, Integer.MIN_VALUE, Integer.MAX_VALUE}) {
                    Check.due("dirInfo(" + i + ", " + what + ") of " + count, x.dirInfo(i, what), -1);
                }
            }
            for (int what : Zips.NOT_FIELDS) {
                Check.due("dirInfo(0, " + what + ")", x.dirInfo(0, what), -1);
                Check.due("dirInfo(count - 1, " + what + ")", x.dirInfo(count - 1, what), -1);
            }
            if (count > 0) {
                Check.due("dirInfo(0, NAME)", x.dirInfo(0, NAME), 0);
                Check.due("dirInfo(count - 1, OFFSET)", x.dirInfo(count - 1, OFFSET), 7 * (count - 1));
            }
            x.truncate(x.length() - 1);
            for (int what = NAME; what <= OFFSET; what++) {
                Check.due("dirInfo(0, " + what + ") while not openable", x.dirInfo(0, what), -1);
            }
        }
    }

    private static void sizeOf() {
        Check.sentence("Promise 13", "`sizeOf(int name)` answers the size of the data of `name`.");
        for (int name : new int[] {0, 128, 255}) {
            for (int size : new int[] {0, 1, 127, 128, 223}) {
                int[] data = Zips.filler(size);
                ZipRecover x = Zips.holding(Zips.join(Zips.local(name, data), Zips.central(name, 0, data), Zips.end(1, 11 + size)));
                Check.due("sizeOf(" + name + ")", x.sizeOf(name), size);
            }
        }
    }

    private static void sizeOfUnknown() {
        Check.sentence("Promise 13", "It answers -1 if the image is not openable or if no directory record has that name.");
        ZipRecover x = Zips.busy();
        for (int name = 0; name < 256; name++) {
            Check.due("sizeOf(" + name + ")", x.sizeOf(name), name == 3 ? 3 : name == 7 ? 2 : -1);
        }
        x.truncate(70);
        Check.due("sizeOf(3) while not openable", x.sizeOf(3), -1);
        Check.due("sizeOf(7) while not openable", x.sizeOf(7), -1);
        x.truncate(9);
        Check.due("sizeOf(3) of an empty directory", x.sizeOf(3), -1);
        x.truncate(0);
        Check.due("sizeOf(3) of nothing", x.sizeOf(3), -1);
        // A record in the image that the directory does not list is not looked up.
        ZipRecover unlisted = Zips.holding(Zips.join(Zips.local(1), Zips.local(2), Zips.central(1, 0), Zips.end(1, 22)));
        Check.due("sizeOf(1)", unlisted.sizeOf(1), 0);
        Check.due("sizeOf(2)", unlisted.sizeOf(2), -1);
    }

    /** An object that has the names 0 and 255, with 2 and 1 bytes of data. */
    private static ZipRecover outermostNames() {
        ZipRecover x = new ZipRecover(256);
        Zips.stage(x, 0, 8, 9);
        Zips.stage(x, 255, 10);
        Check.due("commit()", x.commit(), 9 + 13 + 12 + 26 + 9);
        return x;
    }

    private static void sizeOfNoByte() {
        Check.sentence("Promise 13", "Any `name` outside 0..255 therefore gives -1.");
        ZipRecover x = outermostNames();
        Check.due("sizeOf(0)", x.sizeOf(0), 2);
        Check.due("sizeOf(255)", x.sizeOf(255), 1);
        for (int name : new int[] {-1, 256, -256, 511, 65535, 65536, Integer.MIN_VALUE, Integer.MAX_VALUE}) {
            Check.due("sizeOf(" + name + ")", x.sizeOf(name), -1);
        }
    }

    private static void dataAt() {
        Check.sentence("Promise 14", "`dataAt(int name, int j)` answers byte `j` (0-based) of the data of `name`, as 0..255.");
        int[] data = new int[128];
        for (int j = 0; j < 128; j++) {
            data[j] = 255 - j * 255 / 127;
        }
        for (int name : new int[] {0, 255}) {
            ZipRecover x = new ZipRecover(256);
            Zips.stage(x, name, data);
            Check.due("commit()", x.commit(), 170);
            for (int j = 0; j < 128; j++) {
                Check.due("dataAt(" + name + ", " + j + ")", x.dataAt(name, j), data[j]);
            }
        }
    }

    private static void dataAtNotOpenable() {
        Check.sentence("Promise 14", "the image is not openable;");
        ZipRecover x = Zips.busy();
        Check.due("dataAt(7, 0)", x.dataAt(7, 0), 104);
        for (int length : new int[] {70, 62, 22, 8, 0}) {
            x.truncate(length);
            Check.due("dataAt(7, 0) at " + length, x.dataAt(7, 0), -1);
        }
        // One wrong record is enough, even another name's.
        ZipRecover other = Zips.busy();
        other.poke(22, 0);
        Check.due("dataAt(7, 0) with a wrong record of another name", other.dataAt(7, 0), -1);
    }

    private static void dataAtUnknown() {
        Check.sentence("Promise 14", "no directory record has that name;");
        ZipRecover x = outermostNames();
        for (int name : new int[] {-1, 1, 254, 256, -256, 511, Integer.MIN_VALUE, Integer.MAX_VALUE}) {
            Check.due("dataAt(" + name + ", 0)", x.dataAt(name, 0), -1);
        }
        Check.due("dataAt(0, 0)", x.dataAt(0, 0), 8);
        Check.due("dataAt(255, 0)", x.dataAt(255, 0), 10);
        // Also where the image begins with bytes that could be taken for a record.
        ZipRecover atTheStart = Zips.holding(Zips.join(Zips.localHeader(9, 2, 0), Zips.bytes(0, 0), Zips.centralOf(9, 2, 0, 0),
            Zips.end(1, 13)));
        for (int name = 0; name < 256; name++) {
            Check.due("dataAt(" + name + ", 0)", atTheStart.dataAt(name, 0), name == 9 ? 0 : -1);
        }
    }

    private static void dataAtOutside() {
        Check.sentence("Promise 14", "`j < 0` or `j >= ` its size.");
        // The data of another name follows at once.
        for (int size : new int[] {0, 1, 127}) {
            ZipRecover x = new ZipRecover(256);
            Zips.stage(x, 1, Zips.filler(size));
            Zips.stage(x, 2, 1);
            x.commit();
            for (int j : new int[] {-1, -11, -12, size, size + 1, 256, Integer.MIN_VALUE, Integer.MAX_VALUE}) {
                Check.due("dataAt(1, " + j + ") of " + size, x.dataAt(1, j), -1);
            }
            Check.due("dataAt(1, 0)", x.dataAt(1, 0), size > 0 ? 0xA5 : -1);
            Check.due("dataAt(1, size - 1)", x.dataAt(1, size - 1), size > 0 ? 0xA5 : -1);
        }
    }

    private static void pendingSizeAndCrc() {
        Check.sentence("Promise 15", "`INFO_SIZE`: its bytes so far;");
        ZipRecover x = new ZipRecover(64);
        x.add(255);
        for (int n = 0; n <= 128; n++) {
            Check.due("pendingInfo(0, SIZE)", x.pendingInfo(0, SIZE), n);
            Check.due("put number " + n, x.put(255), n < 128);
        }
        Check.due("pendingInfo(0, SIZE) after a refused put", x.pendingInfo(0, SIZE), 128);
        Check.sentence("Promise 15", "`INFO_CRC`: the CRC-32 of its bytes so far (unsigned, 0..4294967295), which is 0 for an entry "
            + "with no data.");
        x.discard();
        x.add(0);
        long[] crcs = {0, 0xFF000000L, 0xFFFF0000L, 0xFFFFFF00L, 0xFFFFFFFFL};
        for (long crc : crcs) {
            Check.due("pendingInfo(0, CRC)", x.pendingInfo(0, CRC), crc);
            x.put(255);
        }
        Zips.stage(x, 0);
        Check.due("pendingInfo(1, CRC)", x.pendingInfo(1, CRC), 0);
        Check.due("pendingInfo(0, CRC)", x.pendingInfo(0, CRC), Zips.crc(255, 255, 255, 255, 255));
    }

    private static void pendingInfoRefused() {
        Check.sentence("Promise 15", "It answers -1 if `k < 0` or `k >=` the number pending, or if `what` is none of these three.");
        for (int count = 0; count <= 8; count++) {
            ZipRecover x = new ZipRecover(64);
            for (int k = 0; k < count; k++) {
                Zips.stage(x, k, 1);
            }
            for (int k : new int[] {-1, -2, count, count + 1, 8, 9, 128, Integer.MIN_VALUE, Integer.MAX_VALUE}) {
                for (int what = NAME; what <= CRC; what++) {
                    Check.due("pendingInfo(" + k + ", " + what + ") of " + count, x.pendingInfo(k, what), -1);
                }
            }
            for (int k = 0; k < count; k++) {
                Check.due("pendingInfo(" + k + ", NAME)", x.pendingInfo(k, NAME), k);
                for (int what : Zips.NOT_FIELDS) {
                    Check.due("pendingInfo(" + k + ", " + what + ")", x.pendingInfo(k, what), -1);
                }
            }
        }
    }

    private static void pendingOffset() {
        Check.sentence("Promise 15", "`INFO_OFFSET` therefore gives -1.");
        ZipRecover x = Zips.busy();
        Zips.stage(x, 1);
        Check.due("pendingInfo(0, OFFSET)", x.pendingInfo(0, OFFSET), -1);
        Check.due("pendingInfo(1, OFFSET)", x.pendingInfo(1, OFFSET), -1);
        Check.due("pendingInfo(2, OFFSET)", x.pendingInfo(2, OFFSET), -1);
    }

    private static void foundInfo() {
        Check.sentence("Promise 16", "`foundInfo(int i, int what)` answers a field of the i-th found record (0-based, in scan order), "
            + "using `INFO_NAME`, `INFO_SIZE`, `INFO_CRC` (unsigned, 0..4294967295) or `INFO_OFFSET` (the p at which the record was "
            + "found).");
        ZipRecover x = Zips.holding(Zips.join(Zips.local(255, 255, 255, 255, 255), Zips.local(0), Zips.local(255)));
        Check.due("salvage()", x.salvage(), 3);
        Zips.dueFound(x, 0, 255, 4, 4294967295L, 0);
        Zips.dueFound(x, 1, 0, 0, 0, 15);
        Zips.dueFound(x, 2, 255, 0, 0, 26);
        int[] data = Zips.filler(223);
        ZipRecover large = Zips.holding(Zips.local(1, data));
        Check.due("salvage()", large.salvage(), 1);
        Zips.dueFound(large, 0, 1, 223, Zips.crc(data), 0);
        // The largest record that can be found fills the image, and leaves no place for a directory.
        int[] most = Zips.filler(245);
        ZipRecover full = Zips.holding(Zips.local(1, most));
        Check.due("salvage()", full.salvage(), ZipRecover.ERR_FULL);
        Zips.dueFound(full, 0, 1, 245, Zips.crc(most), 0);
    }

    private static void foundInfoRefused() {
        Check.sentence("Promise 16", "It answers -1 if `i < 0` or `i >=` the number found, or if `what` is none of these four.");
        for (int count : new int[] {0, 1, 2, 22, 23}) {
            int[] image = new int[0];
            for (int i = 0; i < count; i++) {
                image = Zips.join(image, Zips.local(i));
            }
            ZipRecover x = Zips.holding(image);
            x.salvage();
            for (int i : new int[] {-1, -2, count, count + 1, 23, 24, 256, Integer.MIN_VALUE, Integer.MAX_VALUE}) {
                for (int what = NAME; what <= OFFSET; what++) {
                    Check.due("foundInfo(" + i + ", " + what + ") of " + count, x.foundInfo(i, what), -1);
                }
            }
            for (int i = 0; i < count; i++) {
                Check.due("foundInfo(" + i + ", OFFSET)", x.foundInfo(i, OFFSET), 11 * i);
                for (int what : Zips.NOT_FIELDS) {
                    Check.due("foundInfo(" + i + ", " + what + ")", x.foundInfo(i, what), -1);
                }
            }
        }
    }

    private static void foundInfoAtFirst() {
        Check.sentence("Promise 16", "Before any salvage every call answers -1.");
        ZipRecover x = outermostNames();
        for (int i : new int[] {-1, 0, 1, 2, 22, 23, Integer.MIN_VALUE, Integer.MAX_VALUE}) {
            for (int what = NAME - 1; what <= OFFSET + 1; what++) {
                Check.due("foundInfo(" + i + ", " + what + ")", x.foundInfo(i, what), -1);
            }
        }
        Check.due("salvage()", x.salvage(), 2);
        Check.due("foundInfo(0, OFFSET)", x.foundInfo(0, OFFSET), 9);
    }

    private static void changeNothing() {
        int[] values = {Integer.MIN_VALUE, -1, 0, 1, 3, 7, 8, 9, 70, 71, 255, 256, Integer.MAX_VALUE};
        for (int promise : new int[] {9, 10, 12, 13, 14, 15, 16}) {
            Check.sentence("Promise " + promise, "It changes nothing.");
            for (int length : new int[] {71, 70, 9, 0}) {
                ZipRecover x = Zips.busy();
                x.truncate(length);
                String before = Zips.state(x);
                for (int a : values) {
                    for (int b : values) {
                        query(promise, x, a, b);
                    }
                }
                Check.due("the state after the queries", Zips.state(x), before);
                Zips.dueCapacity(x, 256);
            }
        }
    }

    private static void query(int promise, ZipRecover x, int a, int b) {
        switch (promise) {
            case 9 -> x.length();
            case 10 -> x.byteAt(a);
            case 12 -> x.dirInfo(a, b);
            case 13 -> x.sizeOf(a);
            case 14 -> x.dataAt(a, b);
            case 15 -> x.pendingInfo(a, b);
            default -> x.foundInfo(a, b);
        }
    }
}
