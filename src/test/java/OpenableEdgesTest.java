import java.util.Arrays;

/** The boundary cases of "Openable" and "Directory and data" under "Terms", and of promise 11, a test for each sentence. */
final class OpenableEdgesTest {
    private static final String TERMS = "Terms";
    private static final String ELEVEN = "Promise 11";
    private static final int[] ONE = Zips.local(1, 5, 6);

    public static void main(String[] args) {
        nineBytes();
        endSignature();
        countAndPlace();
        everyRecord();
        centralRecord();
        localRecord();
        ascendingNames();
        directoryInOrder();
        dataPlace();
        dataUnchecked();
        answers();
        changesNothing();
        Check.end();
    }

    private static void due(String what, boolean want, int[]... parts) {
        Check.due("isOpenable() of " + what, Zips.holding(Zips.join(parts)).isOpenable(), want);
    }

    private static void nineBytes() {
        Check.sentence(TERMS, "L >= 9;");
        int[] end = Zips.end(0, 0);
        due("9 bytes", true, end);
        for (int size = 0; size <= 8; size++) {
            due("the first " + size + " bytes of an end record", false, Arrays.copyOf(end, size));
            due("the last " + size + " bytes of an end record", false, Arrays.copyOfRange(end, 9 - size, 9));
            // The bytes that a cut has taken away are still stored, and don't count.
            ZipRecover x = new ZipRecover(64);
            x.truncate(size);
            Check.due("isOpenable() cut to " + size, x.isOpenable(), false);
        }
        due("10 bytes", true, Zips.filler(1), Zips.end(0, 1));
        due("256 bytes", true, Zips.filler(247), Zips.end(0, 247));
    }

    private static void endSignature() {
        Check.sentence(TERMS, "bytes L-9..L-6 are the end signature;");
        for (int[] before : new int[][] {{}, ONE}) {
            for (int k = 0; k < 4; k++) {
                for (int step : new int[] {-1, 1, 128}) {
                    int[] end = Zips.end(0, before.length);
                    end[k] = (end[k] + step) & 255;
                    due("an end signature with a wrong byte " + k, false, before, end);
                }
            }
            due("an end record", true, before, Zips.end(0, before.length));
            due("an end record and a byte", false, before, Zips.end(0, before.length), Zips.bytes(0));
            due("an end record and a byte that its place allows for", false, before, Zips.end(0, before.length + 1), Zips.bytes(0));
        }
        due("a local signature at the end", false, Zips.bytes(0x50, 0x4B, 3, 4, 0, 0, 0, 0, 0));
        due("a central signature at the end", false, Zips.bytes(0x50, 0x4B, 1, 2, 0, 0, 0, 0, 0));
    }

    private static void countAndPlace() {
        Check.sentence(TERMS, "with c = count, d = dirOffset and s = dirSize of that end record, s == 13*c and d + s == L - 9;");
        int[] listed = Zips.join(ONE, Zips.central(1, 0, 5, 6));
        due("a count of 1", true, listed, Zips.endOf(1, 13, 13));
        // Only s is wrong, and d such that the sum is right.
        due("a dirSize of 12", false, listed, Zips.endOf(1, 14, 12));
        due("a dirSize of 14", false, listed, Zips.endOf(1, 12, 14));
        due("a dirSize of 0", false, listed, Zips.endOf(1, 26, 0));
        due("a dirSize of 26", false, listed, Zips.endOf(1, 0, 26));
        due("a count of 0 with a dirSize", false, listed, Zips.endOf(0, 13, 13));
        due("a count of 2 with a dirSize of 13", false, listed, Zips.endOf(2, 13, 13));
        due("a count of 0", true, listed, Zips.endOf(0, 26, 0));
        // Only the sum is wrong.
        due("a dirOffset of 12", false, listed, Zips.endOf(1, 12, 13));
        due("a dirOffset of 14", false, listed, Zips.endOf(1, 14, 13));
        due("a dirOffset of 25 for no records", false, listed, Zips.endOf(0, 25, 0));
        due("a dirOffset of 27 for no records", false, listed, Zips.endOf(0, 27, 0));
        // Sums and products that would be right in 8 or 16 bits alone.
        due("a dirOffset with a high byte", false, listed, Zips.endOf(1, 256 + 13, 13));
        due("a dirSize with a high byte", false, listed, Zips.endOf(1, 13, 256 + 13));
        due("a sum past 65535", false, Zips.endOf(1, 65536 - 13, 13));
        due("a sum past 65535 by 12", false, Zips.filler(12), Zips.endOf(1, 65535, 13));
        due("a count of 20 with a dirSize of 260 in 8 bits", false, Zips.filler(4), Zips.endOf(20, 0, 4));
        due("a count of 255", false, Zips.endOf(255, 0, 255 * 13));
        due("a count of 255 before the start", false, Zips.endOf(255, 65536 - 255 * 13, 255 * 13));
    }

    private static void everyRecord() {
        Check.sentence(TERMS, "for every i < c:");
        int[] locals = Zips.join(Zips.local(1), Zips.local(2), Zips.local(3));
        int[][] centrals = {Zips.central(1, 0), Zips.central(2, 11), Zips.central(3, 22)};
        due("three records", true, locals, Zips.join(centrals), Zips.end(3, 33));
        for (int i = 0; i < 3; i++) {
            int[][] wrong = centrals.clone();
            wrong[i] = centrals[i].clone();
            wrong[i][0] = 0;
            due("a wrong record " + i, false, locals, Zips.join(wrong), Zips.end(3, 33));
        }
        // With a count of 0 there is none to look at, and what comes before the directory is not of it.
        due("no records", true, Zips.filler(30), Zips.end(0, 30));
        due("a wrong record before the directory", true, locals, Zips.filler(13), Zips.join(centrals), Zips.end(3, 46));
        int[] most = Zips.crowded(12);
        due("twelve records, which is the most", true, most);
        int[] lastWrong = most.clone();
        lastWrong[most.length - 9 - 13] = 0;
        due("a wrong twelfth record", false, lastWrong);
    }

    private static void centralRecord() {
        Check.sentence(TERMS, "the 13 bytes at d + 13*i begin with the central signature and hold name n_i, size z_i, crc k_i and "
            + "offset o_i, with o_i + 11 + z_i <= d;");
        for (int k = 0; k < 4; k++) {
            int[] central = Zips.central(1, 0, 5, 6);
            central[k] = central[k] + 1;
            due("a central signature with a wrong byte " + k, false, ONE, central, Zips.end(1, 13));
        }
        // Up to the directory, one byte short of it, and one byte into it; the crc is free.
        for (int size = 3; size <= 5; size++) {
            due("data of " + size + " where 4 bytes are", size <= 4, Zips.filler(2), Zips.localHeader(1, size, 9),
                Zips.filler(4), Zips.centralOf(1, size, 9, 2), Zips.end(1, 17));
        }
        due("a header up to the directory", true, Zips.localHeader(1, 0, 9), Zips.centralOf(1, 0, 9, 0), Zips.end(1, 11));
        due("a header that shares its crc with the directory", false, Zips.bytes(0x50, 0x4B, 3, 4, 1, 0, 0),
            Zips.centralOf(1, 0, 0x02014B50L, 0), Zips.end(1, 7));
        due("a directory at 0, before which no local record fits", false, Zips.centralOf(1, 0, 0, 0), Zips.end(1, 0));
        // Sums that would be small in 16 bits.
        due("a size of 65535", false, Zips.localHeader(1, 65535, 9), Zips.centralOf(1, 65535, 9, 0), Zips.end(1, 11));
        due("a size of 65525", false, Zips.localHeader(1, 65525, 9), Zips.centralOf(1, 65525, 9, 0), Zips.end(1, 11));
        due("an offset of 65535", false, ONE, Zips.central(1, 65535, 5, 6), Zips.end(1, 13));
        due("an offset of 256", false, ONE, Zips.central(1, 256, 5, 6), Zips.end(1, 13));
    }

    private static void localRecord() {
        Check.sentence(TERMS, "the bytes at o_i begin with the local signature and hold name n_i, size z_i and crc k_i;");
        int[] rest = Zips.join(Zips.central(1, 0, 5, 6), Zips.end(1, 13));
        for (int pos = 0; pos < 13; pos++) {
            for (int bit = 0; bit < 8; bit++) {
                int[] local = ONE.clone();
                local[pos] = local[pos] ^ 1 << bit;
                due("a local record with a wrong bit at " + pos, pos >= 11, local, rest);
            }
        }
        for (int pos = 4; pos < 13; pos++) {
            for (int bit = 0; bit < 8; bit++) {
                int[] central = Zips.central(1, 0, 5, 6);
                central[pos] = central[pos] ^ 1 << bit;
                due("a central record with a wrong bit at " + pos, false, ONE, central, Zips.end(1, 13));
            }
        }
        // Fields at their greatest: the crc alone can have it in a sound image.
        due("a crc of 4294967295", true, Zips.localHeader(255, 0, 0xFFFFFFFFL), Zips.centralOf(255, 0, 0xFFFFFFFFL, 0),
            Zips.end(1, 11));
        due("a place one byte off", false, Zips.filler(1), ONE, Zips.central(1, 0, 5, 6), Zips.end(1, 14));
        due("the place after one byte", true, Zips.filler(1), ONE, Zips.central(1, 1, 5, 6), Zips.end(1, 14));
    }

    private static void ascendingNames() {
        Check.sentence(TERMS, "n_(i-1) < n_i for every i with 0 < i < c.");
        int[][] pairs = {
            {0, 1}, {0, 255}, {127, 128}, {254, 255}, {5, 4}, {5, 5}, {5, 6}, {255, 0}, {128, 127}, {0, 0}, {255, 255}};
        for (int[] pair : pairs) {
            due("the names " + pair[0] + " and " + pair[1], pair[0] < pair[1], Zips.local(pair[0]), Zips.local(pair[1]),
                Zips.central(pair[0], 0), Zips.central(pair[1], 11), Zips.end(2, 22));
        }
        // The first has none before it; the last must ascend too, and the one just before it counts.
        for (int name : new int[] {0, 255}) {
            due("the name " + name + " alone", true, Zips.local(name), Zips.central(name, 0), Zips.end(1, 11));
        }
        int[] locals = Zips.join(Zips.local(1), Zips.local(9), Zips.local(5), Zips.local(9));
        due("1, 9", true, locals, Zips.central(1, 0), Zips.central(9, 11), Zips.end(2, 44));
        due("1, 9, 5", false, locals, Zips.central(1, 0), Zips.central(9, 11), Zips.central(5, 22), Zips.end(3, 44));
        due("1, 9, 9", false, locals, Zips.central(1, 0), Zips.central(9, 11), Zips.central(9, 33), Zips.end(3, 44));
        due("1, 5, 9", true, locals, Zips.central(1, 0), Zips.central(5, 22), Zips.central(9, 33), Zips.end(3, 44));
    }

    private static void directoryInOrder() {
        Check.sentence(TERMS, "When the image is openable, the DIRECTORY is these c records in order.");
        ZipRecover x = Zips.holding(Zips.crowded(12));
        for (int i = 0; i < 12; i++) {
            Zips.dueDir(x, i, i, 0, 0x04034B50L, 7 * i);
        }
        Check.due("dirInfo(12, 0)", x.dirInfo(12, 0), -1);
        ZipRecover none = Zips.holding(Zips.join(ONE, Zips.central(1, 0, 5, 6), Zips.end(0, 26)));
        Check.due("dirInfo(0, 0)", none.dirInfo(0, 0), -1);
        Check.due("sizeOf(1)", none.sizeOf(1), -1);
    }

    private static void dataPlace() {
        Check.sentence(TERMS, "The DATA of name n_i is the z_i bytes at o_i + 11.");
        int[] data = new int[223];
        for (int j = 0; j < 223; j++) {
            data[j] = 255 - j;
        }
        // 11 + 223 + 13 + 9 = 256, the most data that an openable image holds.
        ZipRecover x = Zips.holding(Zips.join(Zips.local(9, data), Zips.central(9, 0, data), Zips.end(1, 234)));
        Check.due("sizeOf(9)", x.sizeOf(9), 223);
        for (int j = 0; j < 223; j++) {
            Check.due("dataAt(9, " + j + ")", x.dataAt(9, j), data[j]);
        }
        Check.due("dataAt(9, 223)", x.dataAt(9, 223), -1);
        Check.due("dataAt(9, -1)", x.dataAt(9, -1), -1);
    }

    private static void dataUnchecked() {
        Check.sentence(TERMS, "Data bytes are not checked against the crc.");
        ZipRecover x = Zips.busy();
        for (int pos : new int[] {20, 21, 33, 35}) {
            for (int v : new int[] {0, 255}) {
                x.poke(pos, v);
                Check.due("isOpenable()", x.isOpenable(), true);
            }
        }
        Check.due("dataAt(7, 0)", x.dataAt(7, 0), 255);
        Check.due("dataAt(3, 1)", x.dataAt(3, 1), 2);
        Check.due("dirInfo(1, INFO_CRC)", x.dirInfo(1, ZipRecover.INFO_CRC), Zips.crc(104, 105));
        due("a record without data with the crc 7", true, Zips.localHeader(1, 0, 7), Zips.centralOf(1, 0, 7, 0), Zips.end(1, 11));
    }

    private static void answers() {
        Check.sentence(ELEVEN, "`isOpenable()` answers whether the image is openable, as defined in Terms.");
        ZipRecover x = Zips.busy();
        for (int length = 71; length >= 0; length--) {
            x.truncate(length);
            Check.due("isOpenable() at " + length, x.isOpenable(), length == 71 || length == 9);
        }
        x.salvage();
        Check.due("isOpenable() after salvage", x.isOpenable(), true);
    }

    private static void changesNothing() {
        Check.sentence(ELEVEN, "It changes nothing.");
        for (int length : new int[] {71, 70, 9, 8, 0}) {
            ZipRecover x = Zips.busy();
            x.truncate(length);
            Zips.dueUnchanged("isOpenable()", x, () -> x.isOpenable(), length == 71 || length == 9);
            Zips.dueCapacity(x, 256);
        }
    }
}
