/** The boundary cases that promise 1 names, a test for each sentence. */
final class ConstructionEdgesTest {
    private static final String ONE = "Promise 1";

    public static void main(String[] args) {
        tooSmall();
        tooLarge();
        between();
        everyInt();
        freshImage();
        freshDirectory();
        freshLists();
        Check.end();
    }

    private static void tooSmall() {
        Check.sentence(ONE, "a value below 64 becomes 64;");
        for (int value : new int[] {63, 62, 42, 9, 1, 0}) {
            Zips.dueCapacity(new ZipRecover(value), 64);
        }
    }

    private static void tooLarge() {
        Check.sentence(ONE, "a value above 256 becomes 256;");
        for (int value : new int[] {257, 258, 300, 512}) {
            Zips.dueCapacity(new ZipRecover(value), 256);
        }
    }

    private static void between() {
        Check.sentence(ONE, "any other value is kept as given.");
        for (int value = 64; value <= 256; value++) {
            Zips.dueCapacity(new ZipRecover(value), value);
        }
    }

    private static void everyInt() {
        Check.sentence(ONE, "This holds for every int, including negative values.");
        // The last ones would be kept, or clamped to the other side, if a part of their bits were lost.
        for (int value : new int[] {-1, -64, -256, Integer.MIN_VALUE, Integer.MIN_VALUE + 1, -156, -65536 + 100}) {
            Zips.dueCapacity(new ZipRecover(value), 64);
        }
        for (int value : new int[] {Integer.MAX_VALUE, Integer.MAX_VALUE - 1, 256 + 64, 65536 + 100, 65536}) {
            Zips.dueCapacity(new ZipRecover(value), 256);
        }
    }

    private static void freshImage() {
        Check.sentence(ONE, "The fresh object has `length` 9, and its image is `0x50 0x4B 0x05 0x06 0 0 0 0 0`.");
        for (int capacity : new int[] {Integer.MIN_VALUE, 63, 64, 65, 256, 257, Integer.MAX_VALUE}) {
            ZipRecover x = new ZipRecover(capacity);
            Check.due("length()", x.length(), 9);
            int[] image = {0x50, 0x4B, 0x05, 0x06, 0, 0, 0, 0, 0};
            for (int pos = 0; pos < 9; pos++) {
                Check.due("byteAt(" + pos + ")", x.byteAt(pos), image[pos]);
            }
            Check.due("byteAt(9)", x.byteAt(9), -1);
        }
    }

    private static void freshDirectory() {
        Check.sentence(ONE, "That is an end record with count 0, dirOffset 0 and dirSize 0, so the image is openable with an "
            + "empty directory.");
        for (int capacity : new int[] {0, 64, 256}) {
            ZipRecover x = new ZipRecover(capacity);
            Zips.dueImage("of a fresh object", x, Zips.endOf(0, 0, 0));
            Check.due("isOpenable()", x.isOpenable(), true);
            for (int what = 0; what < 4; what++) {
                Check.due("dirInfo(0, " + what + ")", x.dirInfo(0, what), -1);
            }
            for (int name = 0; name < 256; name++) {
                Check.due("sizeOf(" + name + ")", x.sizeOf(name), -1);
            }
        }
    }

    private static void freshLists() {
        Check.sentence(ONE, "The pending list and the found list are both empty.");
        for (int capacity : new int[] {0, 64, 256}) {
            ZipRecover x = new ZipRecover(capacity);
            for (int what = 0; what < 4; what++) {
                Check.due("pendingInfo(0, " + what + ")", x.pendingInfo(0, what), -1);
                Check.due("foundInfo(0, " + what + ")", x.foundInfo(0, what), -1);
            }
            Check.due("put(1)", x.put(1), false);
            Check.due("commit()", x.commit(), ZipRecover.ERR_EMPTY);
        }
    }
}
