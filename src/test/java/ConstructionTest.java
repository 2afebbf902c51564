/** Promise 1: construction and start state. */
final class ConstructionTest {
    public static void main(String[] args) {
        capacity();
        startState();
        Check.end();
    }

    private static void capacity() {
        int[][] dueCapacities = {
            {64, 64}, {63, 64}, {0, 64}, {-1, 64}, {-100, 64}, {Integer.MIN_VALUE, 64}, {65, 65}, {101, 101},
            {102, 102}, {128, 128}, {200, 200}, {255, 255}, {256, 256}, {257, 256}, {320, 256}, {65600, 256},
            {Integer.MAX_VALUE, 256}};
        for (int[] pair : dueCapacities) {
            Check.due("capacity of ZipRecover(" + pair[0] + ")", capacityOf(pair[0]), pair[1]);
        }
    }

    /** The greatest length that a commit reaches. */
    private static int capacityOf(int argument) {
        for (int length = 300; length >= 42; length--) {
            ZipRecover x = new ZipRecover(argument);
            int size = length - 42;
            if (length > 150) {
                fill(x, 60);
                x.commit();
                size = length - 135;
            }
            fill(x, size);
            if (size <= 128 && x.commit() == length) {
                return length;
            }
        }
        return -1;
    }

    private static void fill(ZipRecover x, int size) {
        x.add(5);
        for (int j = 0; j < size; j++) {
            x.put(1);
        }
    }

    private static void startState() {
        for (int capacity : new int[] {Integer.MIN_VALUE, -1, 0, 64, 100, 256, Integer.MAX_VALUE}) {
            ZipRecover x = new ZipRecover(capacity);
            Check.due("length()", x.length(), 9);
            Zips.dueImage("at the start", x, Zips.bytes(0x50, 0x4B, 0x05, 0x06, 0, 0, 0, 0, 0));
            Check.due("isOpenable()", x.isOpenable(), true);
            for (int what = 0; what < 4; what++) {
                Check.due("dirInfo(0, " + what + ")", x.dirInfo(0, what), -1);
                Check.due("pendingInfo(0, " + what + ")", x.pendingInfo(0, what), -1);
                Check.due("foundInfo(0, " + what + ")", x.foundInfo(0, what), -1);
            }
            Check.due("commit()", x.commit(), ZipRecover.ERR_EMPTY);
        }
        ZipRecover one = new ZipRecover(256);
        ZipRecover other = new ZipRecover(256);
        one.add(1);
        one.poke(0, 0);
        Check.due("pendingInfo of the other object", other.pendingInfo(0, 0), -1);
        Check.due("byteAt of the other object", other.byteAt(0), 0x50);
    }
}
