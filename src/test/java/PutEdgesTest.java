/** The boundary cases that promise 3 names, a test for each sentence. */
final class PutEdgesTest {
    private static final String THREE = "Promise 3";

    public static void main(String[] args) {
        nonePending();
        wrongByte();
        bytesFull();
        orderOfTests();
        growsAtTheEnd();
        sizeAndCrc();
        restStays();
        Check.end();
    }

    private static void dueRefused(String when, ZipRecover x, int b) {
        Zips.dueUnchanged("put(" + b + ") " + when, x, () -> x.put(b), false);
    }

    private static void nonePending() {
        Check.sentence(THREE, "there is no pending entry;");
        ZipRecover x = new ZipRecover(256);
        dueRefused("on a fresh object", x, 0);
        x.add(256);
        dueRefused("after a refused add", x, 0);
        Check.due("add(1)", x.add(1), true);
        Check.due("put(0) with one entry", x.put(0), true);
        x.discard();
        dueRefused("after discard", x, 255);
        Zips.stage(x, 1, 2);
        Check.due("commit()", x.commit(), 43);
        dueRefused("after commit", x, 255);
        Check.due("salvage()", x.salvage(), 1);
        dueRefused("after salvage", x, 255);
        // A refused byte does not wait for the next entry.
        x.add(1);
        Check.due("size of a new entry", x.pendingInfo(0, 1), 0);
    }

    private static void wrongByte() {
        Check.sentence(THREE, "`b < 0` or `b > 255`;");
        ZipRecover x = new ZipRecover(256);
        Zips.stage(x, 1);
        for (int b : Zips.NOT_BYTES) {
            dueRefused("to an entry without data", x, b);
        }
        Check.due("put(0)", x.put(0), true);
        Check.due("put(255)", x.put(255), true);
        for (int b : Zips.NOT_BYTES) {
            dueRefused("to an entry with data", x, b);
        }
        Check.due("commit()", x.commit(), 44);
        Check.due("dataAt(1, 0)", x.dataAt(1, 0), 0);
        Check.due("dataAt(1, 1)", x.dataAt(1, 1), 255);
    }

    private static void bytesFull() {
        Check.sentence(THREE, "128 data bytes are already pending, counting all entries together.");
        int[][] splits = {{127}, {0, 127}, {127, 0}, {64, 63}, {1, 126}, {16, 16, 16, 16, 16, 16, 16, 15}, {100, 0, 0, 27}};
        for (int[] split : splits) {
            ZipRecover x = new ZipRecover(256);
            for (int k = 0; k < split.length; k++) {
                Zips.stage(x, k, Zips.filler(split[k]));
            }
            Check.due("the 128th put", x.put(9), true);
            dueRefused("as the 129th", x, 9);
            if (split.length < 8) {
                Check.due("add with 128 bytes pending", x.add(200), true);
                dueRefused("to a new entry with 128 bytes pending", x, 9);
            }
            x.discard();
            Zips.stage(x, 1, Zips.filler(128));
            dueRefused("as the 129th after discard", x, 9);
            Check.due("commit()", x.commit(), 170);
            Zips.stage(x, 1, Zips.filler(128));
            dueRefused("as the 129th after commit", x, 9);
        }
    }

    private static void orderOfTests() {
        Check.sentence(THREE, "The tests run in this order, and each refusal answers false and changes nothing:");
        ZipRecover x = new ZipRecover(64);
        dueRefused("with nothing pending", x, -1);
        dueRefused("with nothing pending", x, 256);
        Zips.stage(x, 1, Zips.filler(128));
        dueRefused("with 128 bytes pending", x, -1);
        dueRefused("with 128 bytes pending", x, 256);
        // The capacity of the image plays no part in it.
        Check.due("commit() of 128 bytes in 64", x.commit(), ZipRecover.ERR_FULL);
        dueRefused("after a refused commit", x, 1);
        Zips.dueCapacity(x, 64);
    }

    private static void growsAtTheEnd() {
        Check.sentence(THREE, "On success only that entry's data grows by one byte at its end.");
        ZipRecover x = new ZipRecover(256);
        Zips.stage(x, 4);
        Zips.stage(x, 5, 1, 2);
        Zips.stage(x, 6);
        Check.due("put(3)", x.put(3), true);
        Check.due("put(4)", x.put(4), true);
        Check.due("sizes", x.pendingInfo(0, 1) * 100 + x.pendingInfo(1, 1) * 10 + x.pendingInfo(2, 1), 22);
        x.commit();
        Check.due("dataAt(5, 0)", x.dataAt(5, 0), 1);
        Check.due("dataAt(5, 1)", x.dataAt(5, 1), 2);
        Check.due("dataAt(6, 0)", x.dataAt(6, 0), 3);
        Check.due("dataAt(6, 1)", x.dataAt(6, 1), 4);
        Check.due("sizeOf(4)", x.sizeOf(4), 0);
    }

    private static void sizeAndCrc() {
        Check.sentence(THREE, "Its size and CRC-32 as seen through `pendingInfo` change accordingly.");
        ZipRecover x = new ZipRecover(256);
        x.add(9);
        int[] data = new int[0];
        for (int n = 1; n <= 128; n++) {
            int b = n * 37 & 255;
            data = Zips.join(data, Zips.bytes(b));
            Check.due("put number " + n, x.put(b), true);
            Check.due("size after " + n, x.pendingInfo(0, ZipRecover.INFO_SIZE), n);
            Check.due("crc after " + n, x.pendingInfo(0, ZipRecover.INFO_CRC), Zips.crc(data));
        }
    }

    private static void restStays() {
        Check.sentence(THREE, "The other entries, the image, `length` and the found list do not change.");
        ZipRecover x = Zips.busy();
        Zips.stage(x, 3);
        int[] image = Zips.image(x);
        String found = Zips.found(x);
        for (int n = 2; n <= 128; n++) {
            Check.due("put(1)", x.put(1), true);
            Check.due("name of the other entry", x.pendingInfo(0, 0), 9);
            Check.due("size of the other entry", x.pendingInfo(0, 1), 1);
            Check.due("crc of the other entry", x.pendingInfo(0, 2), Zips.crc(42));
            Check.due("pendingInfo(2, 0)", x.pendingInfo(2, 0), -1);
        }
        dueRefused("as the 129th", x, 1);
        Check.due("length()", x.length(), 71);
        Zips.dueImage("after put", x, image);
        Check.due("found after put", Zips.found(x), found);
    }
}
