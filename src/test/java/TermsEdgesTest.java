import java.util.Arrays;

/**
 * The boundary cases that "What it is", "Terms" and "Not promised" name, a test for each sentence. Those of openable are in
 * OpenableEdgesTest, those of salvage in SalvageEdgesTest.
 */
final class TermsEdgesTest {
    private static final String INTRO = "What it is";
    private static final String TERMS = "Terms";
    private static final String FREE = "Not promised";
    private static final int[] DIGITS = {0x31, 0x32, 0x33, 0x34, 0x35, 0x36, 0x37, 0x38, 0x39};
    private static final int[] EXTREMES = {
        Integer.MIN_VALUE, Integer.MIN_VALUE + 1, -65536, -257, -256, -1, 256, 257, 65536, 330382100, Integer.MAX_VALUE - 10,
        Integer.MAX_VALUE - 1, Integer.MAX_VALUE};

    public static void main(String[] args) {
        capacityBetween();
        names();
        olderVersions();
        lookups();
        capacityConstants();
        recordSizes();
        pendingConstants();
        refusalCodes();
        fieldSelectors();
        imageBytes();
        neverRead();
        littleEndian();
        crcRange();
        crcOfNothing();
        crcOfDigits();
        signatures();
        localRow();
        centralRow();
        endRow();
        pendingList();
        foundList();
        foundListAtFirst();
        capacityIsTheGreatest();
        noWrapAround();
        storageIsFree();
        everyArgument();
        Check.end();
    }

    private static void capacityBetween() {
        Check.sentence(INTRO, "ZipRecover keeps a small zip-style archive as one byte image whose length never exceeds a capacity "
            + "between 64 and 256 bytes.");
        for (int argument : new int[] {0, 63, 64}) {
            Zips.dueCapacity(new ZipRecover(argument), 64);
        }
        for (int argument : new int[] {256, 257, 1000}) {
            Zips.dueCapacity(new ZipRecover(argument), 256);
        }
    }

    private static void names() {
        Check.sentence(INTRO, "Each entry has a one-byte name (0..255) and data bytes.");
        for (int name : new int[] {0, 255}) {
            ZipRecover x = new ZipRecover(64);
            Zips.stage(x, name, 0, 255);
            Check.due("commit()", x.commit(), 44);
            Check.due("sizeOf(" + name + ")", x.sizeOf(name), 2);
            Check.due("dataAt(" + name + ", 0)", x.dataAt(name, 0), 0);
            Check.due("dataAt(" + name + ", 1)", x.dataAt(name, 1), 255);
        }
        ZipRecover x = new ZipRecover(64);
        Check.due("add(-1)", x.add(-1), false);
        Check.due("add(256)", x.add(256), false);
    }

    private static void olderVersions() {
        Check.sentence(INTRO, "A commit never rewrites old bytes, so older versions of a name stay in the image but are shadowed.");
        ZipRecover x = new ZipRecover(256);
        int[] before = Zips.image(x);
        for (int version = 1; version <= 6; version++) {
            Zips.stage(x, 4, version);
            Check.due("commit()", x.commit(), before.length + 34);
            Check.due("the old bytes", Arrays.toString(Arrays.copyOf(Zips.image(x), before.length)), Arrays.toString(before));
            Check.due("dataAt(4, 0)", x.dataAt(4, 0), version);
            Check.due("dirInfo(1, 0)", x.dirInfo(1, 0), -1);
            before = Zips.image(x);
        }
        for (int version = 5; version >= 1; version--) {
            x.truncate(9 + 34 * version);
            Check.due("dataAt(4, 0) of an older version", x.dataAt(4, 0), version);
        }
    }

    private static void lookups() {
        Check.sentence(INTRO, "Lookups go through the end record and directory and work only when the image is openable.");
        ZipRecover x = Zips.busy();
        Check.due("dataAt(7, 0)", x.dataAt(7, 0), 104);
        x.poke(62, 0);
        Check.due("dataAt(7, 0) without end record", x.dataAt(7, 0), -1);
        Check.due("sizeOf(7) without end record", x.sizeOf(7), -1);
        Check.due("dirInfo(0, 0) without end record", x.dirInfo(0, 0), -1);
        x.poke(62, 0x50);
        Check.due("dataAt(7, 0)", x.dataAt(7, 0), 104);
        x.truncate(70);
        Check.due("dataAt(7, 0) after a cut", x.dataAt(7, 0), -1);
    }

    private static void capacityConstants() {
        Check.sentence(INTRO, "`MIN_CAPACITY = 64`, `MAX_CAPACITY = 256`: bounds to which the capacity is clamped.");
        Check.due("MIN_CAPACITY", ZipRecover.MIN_CAPACITY, 64);
        Check.due("MAX_CAPACITY", ZipRecover.MAX_CAPACITY, 256);
        Zips.dueCapacity(new ZipRecover(ZipRecover.MIN_CAPACITY - 1), ZipRecover.MIN_CAPACITY);
        Zips.dueCapacity(new ZipRecover(ZipRecover.MIN_CAPACITY + 1), ZipRecover.MIN_CAPACITY + 1);
        Zips.dueCapacity(new ZipRecover(ZipRecover.MAX_CAPACITY - 1), ZipRecover.MAX_CAPACITY - 1);
        Zips.dueCapacity(new ZipRecover(ZipRecover.MAX_CAPACITY + 1), ZipRecover.MAX_CAPACITY);
    }

    private static void recordSizes() {
        Check.sentence(INTRO, "`LOCAL_HEADER = 11`, `CENTRAL_SIZE = 13`, `END_SIZE = 9`: record sizes (a local record is 11 bytes "
            + "plus its data).");
        Check.due("LOCAL_HEADER", ZipRecover.LOCAL_HEADER, 11);
        Check.due("CENTRAL_SIZE", ZipRecover.CENTRAL_SIZE, 13);
        Check.due("END_SIZE", ZipRecover.END_SIZE, 9);
        for (int size : new int[] {0, 1, 127, 128}) {
            ZipRecover x = new ZipRecover(256);
            Check.due("length()", x.length(), ZipRecover.END_SIZE);
            Zips.stage(x, 1, Zips.filler(size));
            Check.due("commit()", x.commit(), 9 + (ZipRecover.LOCAL_HEADER + size) + ZipRecover.CENTRAL_SIZE + ZipRecover.END_SIZE);
        }
    }

    private static void pendingConstants() {
        Check.sentence(INTRO, "`MAX_PENDING = 8`: most pending entries at once.");
        ZipRecover x = new ZipRecover(64);
        Check.due("MAX_PENDING", ZipRecover.MAX_PENDING, 8);
        for (int k = 0; k < ZipRecover.MAX_PENDING; k++) {
            Check.due("add number " + k, x.add(k), true);
        }
        Zips.dueUnchanged("one add more", x, () -> x.add(9), false);
        Check.sentence(INTRO, "`PENDING_BYTES = 128`: most data bytes pending, all entries together.");
        Check.due("PENDING_BYTES", ZipRecover.PENDING_BYTES, 128);
        for (int n = 0; n < ZipRecover.PENDING_BYTES; n++) {
            Check.due("put number " + n, x.put(n), true);
        }
        Zips.dueUnchanged("one put more", x, () -> x.put(9), false);
    }

    private static void refusalCodes() {
        Check.sentence(INTRO, "`ERR_EMPTY = -1`, `ERR_DAMAGED = -2`, `ERR_FULL = -3`: refusal codes.");
        ZipRecover x = new ZipRecover(64);
        Zips.dueUnchanged("commit() of nothing", x, () -> x.commit(), -1);
        Zips.stage(x, 1, Zips.filler(23));
        Zips.dueUnchanged("commit() of too much", x, () -> x.commit(), -3);
        x.truncate(8);
        Zips.dueUnchanged("commit() to a damaged image", x, () -> x.commit(), -2);
        Check.due("salvage() of too much", Zips.holding(64, Zips.local(1, Zips.filler(32))).salvage(), -3);
    }

    private static void fieldSelectors() {
        Check.sentence(INTRO, "`INFO_NAME = 0`, `INFO_SIZE = 1`, `INFO_CRC = 2`, `INFO_OFFSET = 3`: field selectors for the info "
            + "queries.");
        ZipRecover x = Zips.busy();
        long[] listed = {-1, 3, 3, 1438416925L, 22, -1};
        long[] found = {-1, 7, 2, 3633523372L, 9, -1};
        long[] pending = {-1, 9, 1, Zips.crc(42), -1, -1};
        for (int what = -1; what <= 4; what++) {
            Check.due("dirInfo(0, " + what + ")", x.dirInfo(0, what), listed[what + 1]);
            Check.due("foundInfo(0, " + what + ")", x.foundInfo(0, what), found[what + 1]);
            Check.due("pendingInfo(0, " + what + ")", x.pendingInfo(0, what), pending[what + 1]);
        }
    }

    private static void imageBytes() {
        Check.sentence(TERMS, "The image is `image[0..length-1]`, each byte 0..255.");
        for (int length : new int[] {0, 1, 9, 256}) {
            ZipRecover x = Zips.holding(Zips.filler(length));
            for (int v : new int[] {-1, 0, 255, 256}) {
                boolean fits = v >= 0 && v <= 255;
                Check.due("poke(0, " + v + ")", x.poke(0, v), fits && length > 0);
                Check.due("poke(length - 1, " + v + ")", x.poke(length - 1, v), fits && length > 0);
                Check.due("poke(length, " + v + ")", x.poke(length, v), false);
            }
            Check.due("byteAt(-1)", x.byteAt(-1), -1);
            Check.due("byteAt(0)", x.byteAt(0), length > 0 ? 255 : -1);
            Check.due("byteAt(length - 1)", x.byteAt(length - 1), length > 0 ? 255 : -1);
            Check.due("byteAt(length)", x.byteAt(length), -1);
        }
    }

    /** Two objects whose images are the first n bytes of one image, with different bytes stored past n. */
    private static ZipRecover[] cutWithDifferentRests(int[] image, int n) {
        int[] other = image.clone();
        for (int pos = n; pos < image.length; pos++) {
            other[pos] = 255 - other[pos];
        }
        ZipRecover[] both = {Zips.holding(image), Zips.holding(other)};
        for (ZipRecover x : both) {
            Check.due("truncate(" + n + ")", x.truncate(n), true);
        }
        return both;
    }

    private static void neverRead() {
        Check.sentence(TERMS, "Bytes at or past `length` are never read.");
        int[] image = Zips.image(Zips.busy());
        for (int n = 0; n <= 71; n++) {
            ZipRecover[] both = cutWithDifferentRests(image, n);
            Check.due("state cut at " + n, Zips.state(both[0]), Zips.state(both[1]));
            Zips.stage(both[0], 1, 2);
            Zips.stage(both[1], 1, 2);
            Check.due("commit() cut at " + n, both[0].commit(), both[1].commit());
            Check.due("state after commit", Zips.state(both[0]), Zips.state(both[1]));
        }
    }

    private static void littleEndian() {
        Check.sentence(TERMS, "Multi-byte fields are little-endian (low byte first): u16 is 2 bytes, u32 is 4 bytes.");
        // A crc of 0x04030201 in the image, then sizes and offsets up to a full low byte.
        ZipRecover x = new ZipRecover(256);
        Zips.stage(x, 1, 0xD2, 0x72, 0xB5, 0x9B);
        Check.due("commit()", x.commit(), 46);
        int[] fields = {4, 0, 1, 2, 3, 4};
        for (int k = 0; k < 6; k++) {
            Check.due("byteAt of size and crc " + k, x.byteAt(9 + 5 + k), fields[k]);
            Check.due("byteAt of size and crc, listed " + k, x.byteAt(24 + 5 + k), fields[k]);
        }
        Check.due("byteAt of the offset", x.byteAt(24 + 11) + 1000 * x.byteAt(24 + 12), 9);
        Check.due("dirInfo(0, INFO_CRC)", x.dirInfo(0, ZipRecover.INFO_CRC), 0x04030201L);
        // The high bytes count: 256 * 4 is another size than 4.
        x.poke(24 + 5, 0);
        x.poke(24 + 6, 4);
        Check.due("isOpenable() with the size's bytes changed about", x.isOpenable(), false);
        // 247 is the greatest dirOffset of an openable image.
        ZipRecover far = Zips.holding(Zips.join(Zips.filler(247), Zips.bytes(0x50, 0x4B, 5, 6, 0, 247, 0, 0, 0)));
        Check.due("isOpenable()", far.isOpenable(), true);
        far.poke(247 + 5, 0);
        far.poke(247 + 6, 247);
        Check.due("isOpenable() with the dirOffset's bytes changed about", far.isOpenable(), false);
        highByteIsWorth256();
    }

    /** A high byte of 1 is 256, and no smaller power of two. */
    private static void highByteIsWorth256() {
        for (int value = 1; value <= 128; value = value * 2) {
            ZipRecover end = Zips.holding(Zips.join(Zips.filler(value), Zips.endOf(0, 256, 0)));
            Check.due("isOpenable() with a dirOffset of 256 for " + value, end.isOpenable(), false);
            ZipRecover offset = Zips.holding(Zips.join(Zips.filler(value), Zips.local(1), Zips.central(1, 256), Zips.end(1, value + 11)));
            Check.due("isOpenable() with an offset of 256 for " + value, offset.isOpenable(), false);
            int[] record = Zips.join(Zips.localHeader(1, 256, Zips.crc(Zips.filler(value))), Zips.filler(value));
            ZipRecover size = Zips.holding(Zips.join(record, Zips.centralOf(1, 256, Zips.crc(Zips.filler(value)), 0),
                Zips.end(1, value + 11)));
            Check.due("isOpenable() with a size of 256 for " + value, size.isOpenable(), false);
            Check.due("salvage() with a size of 256 for " + value, size.salvage(), 0);
            // The scan stops there: what follows is not found, though there is room for it.
            ZipRecover stopped = Zips.holding(Zips.join(Zips.localHeader(1, 256, 1), Zips.filler(value), Zips.local(2)));
            Check.due("salvage() after a size of 256 for " + value, stopped.salvage(), 0);
        }
    }

    private static void crcRange() {
        Check.sentence(TERMS, "The result is an unsigned 32-bit value, answered in a `long` in 0..4294967295.");
        int[][] data = {
            {0x9D, 0x0A, 0xD9, 0x6D}, {0xDC, 0x0C, 0xA8, 0xB6}, {0x2C, 0x70, 0xCA, 0xA4}, {0x4E, 0x85, 0xEC, 0x36},
            {0xBE, 0xF9, 0x8E, 0x24}, {0xFF, 0xFF, 0xFF, 0xFF}};
        long[] crcs = {0, 1, 0x7FFFFFFFL, 0x80000000L, 0xFFFFFFFEL, 0xFFFFFFFFL};
        for (int k = 0; k < data.length; k++) {
            ZipRecover x = new ZipRecover(64);
            Zips.stage(x, 1, data[k]);
            Check.due("pendingInfo(0, INFO_CRC)", x.pendingInfo(0, ZipRecover.INFO_CRC), crcs[k]);
            x.commit();
            Check.due("dirInfo(0, INFO_CRC)", x.dirInfo(0, ZipRecover.INFO_CRC), crcs[k]);
            Check.due("salvage()", x.salvage(), 1);
            Check.due("foundInfo(0, INFO_CRC)", x.foundInfo(0, ZipRecover.INFO_CRC), crcs[k]);
        }
    }

    private static void crcOfNothing() {
        Check.sentence(TERMS, "The empty sequence gives 0.");
        ZipRecover x = new ZipRecover(64);
        Zips.stage(x, 1);
        Check.due("pendingInfo(0, INFO_CRC)", x.pendingInfo(0, ZipRecover.INFO_CRC), 0);
        x.commit();
        Check.due("dirInfo(0, INFO_CRC)", x.dirInfo(0, ZipRecover.INFO_CRC), 0);
        Check.due("salvage()", x.salvage(), 1);
        Check.due("foundInfo(0, INFO_CRC)", x.foundInfo(0, ZipRecover.INFO_CRC), 0);
        // One byte 0 is not the empty sequence.
        Zips.stage(x, 1, 0);
        Check.due("pendingInfo(0, INFO_CRC)", x.pendingInfo(0, ZipRecover.INFO_CRC), 0xD202EF8DL);
        x.poke(9 + 7, 1);
        Check.due("salvage() of an empty record with the crc 1", x.salvage(), 0);
    }

    private static void crcOfDigits() {
        Check.sentence(TERMS, "The bytes 0x31..0x39 give 0xCBF43926.");
        ZipRecover x = new ZipRecover(64);
        Zips.stage(x, 1, DIGITS);
        Check.due("pendingInfo(0, INFO_CRC)", x.pendingInfo(0, ZipRecover.INFO_CRC), 0xCBF43926L);
        x.commit();
        Check.due("dirInfo(0, INFO_CRC)", x.dirInfo(0, ZipRecover.INFO_CRC), 0xCBF43926L);
        Check.due("salvage()", x.salvage(), 1);
        Check.due("foundInfo(0, INFO_CRC)", x.foundInfo(0, ZipRecover.INFO_CRC), 0xCBF43926L);
        Zips.stage(x, 1, Arrays.copyOf(DIGITS, 8));
        Check.due("pendingInfo(0, INFO_CRC) of one less", x.pendingInfo(0, ZipRecover.INFO_CRC), 0x9AE0DAAFL);
    }

    private static void signatures() {
        Check.sentence(TERMS, "The first 4 bytes of each record are its signature.");
        ZipRecover x = new ZipRecover(64);
        Zips.stage(x, 1);
        Check.due("commit()", x.commit(), 42);
        int[][] places = {{0, 5, 6}, {9, 3, 4}, {20, 1, 2}, {33, 5, 6}};
        for (int[] place : places) {
            Check.due("byteAt(" + place[0] + ")", x.byteAt(place[0]), 0x50);
            Check.due("byteAt(" + (place[0] + 1) + ")", x.byteAt(place[0] + 1), 0x4B);
            Check.due("byteAt(" + (place[0] + 2) + ")", x.byteAt(place[0] + 2), place[1]);
            Check.due("byteAt(" + (place[0] + 3) + ")", x.byteAt(place[0] + 3), place[2]);
        }
    }

    private static void localRow() {
        Check.sentence(TERMS, "| local | 11 + size | 0x50 0x4B 0x03 0x04 | name (1 byte), size (u16), crc (u32), then size data "
            + "bytes |");
        for (int size : new int[] {0, 1, 128}) {
            ZipRecover x = new ZipRecover(256);
            Zips.stage(x, 255, Zips.filler(size));
            x.commit();
            int[] want = Zips.join(Zips.end(0, 0), Zips.bytes(0x50, 0x4B, 3, 4, 255, size, 0));
            Check.due("the header", Arrays.toString(Arrays.copyOf(Zips.image(x), 16)), Arrays.toString(want));
            for (int j = 0; j < size; j++) {
                Check.due("byteAt of data " + j, x.byteAt(9 + 11 + j), 0xA5);
            }
            Check.due("byteAt after the record", x.byteAt(9 + 11 + size) * 1000 + x.byteAt(9 + 11 + size + 2), 0x50 * 1000 + 1);
        }
    }

    private static void centralRow() {
        Check.sentence(TERMS, "| central | 13 | 0x50 0x4B 0x01 0x02 | name (1 byte), size (u16), crc (u32), offset (u16) of a local "
            + "record |");
        ZipRecover x = new ZipRecover(256);
        Zips.stage(x, 0, 255, 255, 255, 255);
        Zips.stage(x, 255);
        x.commit();
        int[] image = Zips.image(x);
        int[] first = {0x50, 0x4B, 1, 2, 0, 4, 0, 255, 255, 255, 255, 9, 0};
        int[] second = {0x50, 0x4B, 1, 2, 255, 0, 0, 0, 0, 0, 0, 24, 0};
        Check.due("the first record", Arrays.toString(Arrays.copyOfRange(image, 35, 48)), Arrays.toString(first));
        Check.due("the second record", Arrays.toString(Arrays.copyOfRange(image, 48, 61)), Arrays.toString(second));
    }

    private static void endRow() {
        Check.sentence(TERMS, "| end | 9 | 0x50 0x4B 0x05 0x06 | count (1 byte), dirOffset (u16), dirSize (u16) |");
        // From no records to the ten that a salvage can list.
        for (int count = 0; count <= 10; count++) {
            ZipRecover x = Zips.holding(emptyRecords(count));
            Check.due("salvage()", x.salvage(), count);
            int[] image = Zips.image(x);
            int[] end = {0x50, 0x4B, 5, 6, count, 11 * count, 0, 13 * count, 0};
            Check.due("the end record", Arrays.toString(Arrays.copyOfRange(image, 24 * count, image.length)), Arrays.toString(end));
        }
    }

    private static void pendingList() {
        Check.sentence(TERMS, "Holds up to 8 entries (name, data) in order of add, with at most 128 data bytes together.");
        ZipRecover x = new ZipRecover(256);
        for (int k = 0; k < 8; k++) {
            Zips.stage(x, 255 - k, Zips.filler(16));
        }
        Zips.dueUnchanged("a ninth add", x, () -> x.add(1), false);
        Zips.dueUnchanged("a 129th put", x, () -> x.put(1), false);
        for (int k = 0; k < 8; k++) {
            Check.due("pendingInfo(" + k + ", 0)", x.pendingInfo(k, 0), 255 - k);
            Check.due("pendingInfo(" + k + ", 1)", x.pendingInfo(k, 1), 16);
        }
        Check.due("pendingInfo(8, 0)", x.pendingInfo(8, 0), -1);
    }

    private static int[] emptyRecords(int count) {
        int[] image = new int[0];
        for (int k = 0; k < count; k++) {
            image = Zips.join(image, Zips.local(k));
        }
        return image;
    }

    private static void foundList() {
        Check.sentence(TERMS, "Holds the records found by the last salvage; at most 23 can exist.");
        // 23 * 11 = 253, and with the three bytes that are left the 24th only begins.
        int[][] images = {emptyRecords(22), emptyRecords(23), Arrays.copyOf(emptyRecords(24), 256),
            Zips.join(Zips.filler(3), emptyRecords(23))};
        int[] counts = {22, 23, 23, 23};
        for (int k = 0; k < images.length; k++) {
            ZipRecover x = Zips.holding(images[k]);
            Check.due("salvage()", x.salvage(), ZipRecover.ERR_FULL);
            for (int i = 0; i < counts[k]; i++) {
                Zips.dueFound(x, i, i, 0, 0, 11 * i + (k == 3 ? 3 : 0));
            }
            for (int i = counts[k]; i <= 24; i++) {
                Check.due("foundInfo(" + i + ", 0)", x.foundInfo(i, 0), -1);
            }
            Zips.dueImage("after ERR_FULL", x, images[k]);
            x.truncate(11);
            Check.due("salvage() of less", x.salvage(), k == 3 ? 0 : 1);
            Check.due("foundInfo(1, 0)", x.foundInfo(1, 0), -1);
        }
    }

    private static void foundListAtFirst() {
        Check.sentence(TERMS, "It is empty before any salvage.");
        ZipRecover x = Zips.holding(Zips.local(0));
        for (int i = 0; i < 24; i++) {
            for (int what = 0; what < 4; what++) {
                Check.due("foundInfo(" + i + ", " + what + ")", x.foundInfo(i, what), -1);
            }
        }
        Check.due("salvage()", x.salvage(), 1);
        Check.due("foundInfo(0, 0)", x.foundInfo(0, 0), 0);
    }

    private static void capacityIsTheGreatest() {
        Check.sentence(TERMS, "The capacity is the greatest length the image may reach. `length` never exceeds it.");
        for (int capacity : new int[] {64, 99, 256}) {
            ZipRecover x = new ZipRecover(capacity);
            // The same entry again and again, until it is refused, with salvages between.
            for (int n = 0; n < 12; n++) {
                Zips.stage(x, n & 1, 1, 2);
                int before = x.length();
                int answer = x.commit();
                int due = x.length() > before ? x.length() : ZipRecover.ERR_FULL;
                Check.due("commit() answers the length or ERR_FULL", answer, due);
                x.discard();
                Check.due("the length stays within " + capacity, x.length() <= capacity, true);
                x.salvage();
                Check.due("the length stays within " + capacity, x.length() <= capacity, true);
            }
            Zips.dueCapacity(x, capacity);
        }
    }

    private static void noWrapAround() {
        Check.sentence(TERMS, "All quantities involved are small, so no int or long wrap-around arises in any of the computations "
            + "below.");
        ZipRecover x = Zips.busy();
        // Places that come back into the image if a sum or a product wraps around.
        for (int i : new int[] {330382100, 330382099, Integer.MAX_VALUE / 13 + 1, Integer.MIN_VALUE, Integer.MAX_VALUE}) {
            Zips.dueUnchanged("dirInfo(" + i + ", 0)", x, () -> x.dirInfo(i, 0), -1);
        }
        for (int j : new int[] {Integer.MAX_VALUE, Integer.MAX_VALUE - 19, Integer.MAX_VALUE - 32, Integer.MIN_VALUE, -20, -33}) {
            Zips.dueUnchanged("dataAt(7, " + j + ")", x, () -> x.dataAt(7, j), -1);
            Zips.dueUnchanged("dataAt(3, " + j + ")", x, () -> x.dataAt(3, j), -1);
        }
        // The greatest fields: 65535 + 11 + 65535 and 65535 + 255 * 13 are past every image.
        int[] image = Zips.join(Zips.localHeader(1, 65535, 0), Zips.centralOf(1, 65535, 0, 65535), Zips.endOf(255, 65535, 65535));
        ZipRecover y = Zips.holding(image);
        Check.due("isOpenable()", y.isOpenable(), false);
        Check.due("salvage()", y.salvage(), 0);
    }

    private static void storageIsFree() {
        Check.sentence(FREE, "They are never observable through the public face.");
        int[] image = Zips.image(Zips.busy());
        for (int n = 0; n <= 71; n++) {
            ZipRecover[] both = cutWithDifferentRests(image, n);
            for (int pos = n; pos <= 256; pos++) {
                Check.due("byteAt(" + pos + ") cut at " + n, both[0].byteAt(pos), -1);
            }
            Check.due("salvage() cut at " + n, both[0].salvage(), both[1].salvage());
            Check.due("state after salvage", Zips.state(both[0]), Zips.state(both[1]));
        }
    }

    private static void everyArgument() {
        Check.sentence(FREE, "The answers for arguments are fixed above for every int; nothing else about invalid input is promised.");
        ZipRecover x = Zips.busy();
        for (int v : EXTREMES) {
            Zips.dueUnchanged("add(" + v + ")", x, () -> x.add(v), false);
            Zips.dueUnchanged("put(" + v + ")", x, () -> x.put(v), false);
            Zips.dueUnchanged("truncate(" + v + ")", x, () -> x.truncate(v), false);
            Zips.dueUnchanged("poke(" + v + ", 1)", x, () -> x.poke(v, 1), false);
            Zips.dueUnchanged("poke(1, " + v + ")", x, () -> x.poke(1, v), false);
            Zips.dueUnchanged("byteAt(" + v + ")", x, () -> x.byteAt(v), -1);
            Zips.dueUnchanged("sizeOf(" + v + ")", x, () -> x.sizeOf(v), -1);
            Zips.dueUnchanged("dataAt(" + v + ", 0)", x, () -> x.dataAt(v, 0), -1);
            Zips.dueUnchanged("dataAt(7, " + v + ")", x, () -> x.dataAt(7, v), -1);
            for (int w : EXTREMES) {
                Check.due("poke(" + v + ", " + w + ")", x.poke(v, w), false);
                Check.due("dataAt(" + v + ", " + w + ")", x.dataAt(v, w), -1);
                Check.due("dirInfo(" + v + ", " + w + ")", x.dirInfo(v, w), -1);
                Check.due("pendingInfo(" + v + ", " + w + ")", x.pendingInfo(v, w), -1);
                Check.due("foundInfo(" + v + ", " + w + ")", x.foundInfo(v, w), -1);
            }
        }
        for (int v : EXTREMES) {
            Check.due("dirInfo(0, " + v + ")", x.dirInfo(0, v), -1);
            Check.due("pendingInfo(0, " + v + ")", x.pendingInfo(0, v), -1);
            Check.due("foundInfo(0, " + v + ")", x.foundInfo(0, v), -1);
            for (int what = 0; what < 4; what++) {
                Check.due("dirInfo(" + v + ", " + what + ")", x.dirInfo(v, what), -1);
                Check.due("pendingInfo(" + v + ", " + what + ")", x.pendingInfo(v, what), -1);
                Check.due("foundInfo(" + v + ", " + what + ")", x.foundInfo(v, what), -1);
            }
        }
    }
}
