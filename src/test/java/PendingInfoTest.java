/** Promise 15: pendingInfo. */
final class PendingInfoTest {
    public static void main(String[] args) {
        ZipRecover x = new ZipRecover(64);
        dueNone(x, 0);
        Zips.stage(x, 255);
        due(x, 0, 255);
        Zips.stage(x, 0, 0x31, 0x32, 0x33, 0x34, 0x35, 0x36, 0x37, 0x38, 0x39);
        Zips.stage(x, 7, 104, 105);
        due(x, 0, 255);
        due(x, 1, 0, 0x31, 0x32, 0x33, 0x34, 0x35, 0x36, 0x37, 0x38, 0x39);
        due(x, 2, 7, 104, 105);
        Check.due("pendingInfo(1, INFO_CRC)", x.pendingInfo(1, ZipRecover.INFO_CRC), 0xCBF43926L);
        Check.due("pendingInfo(2, INFO_CRC)", x.pendingInfo(2, ZipRecover.INFO_CRC), 3633523372L);
        dueNone(x, 3);
        for (int k = 0; k < 3; k++) {
            Check.due("pendingInfo(" + k + ", INFO_OFFSET)", x.pendingInfo(k, ZipRecover.INFO_OFFSET), -1);
            for (int what : Zips.NOT_FIELDS) {
                Check.due("pendingInfo(" + k + ", " + what + ")", x.pendingInfo(k, what), -1);
            }
        }
        String before = Zips.state(x);
        x.pendingInfo(1, 2);
        Check.due("state", Zips.state(x), before);
        crcOfEveryByte();
        Check.end();
    }

    private static void crcOfEveryByte() {
        for (int b = 0; b < 256; b++) {
            ZipRecover x = new ZipRecover(64);
            Zips.stage(x, b, b);
            due(x, 0, b, b);
            Zips.stage(x, b, b, 255 - b, b);
            due(x, 1, b, b, 255 - b, b);
        }
        ZipRecover ones = new ZipRecover(64);
        Zips.stage(ones, 1, 255, 255, 255, 255);
        Check.due("crc of four times 255", ones.pendingInfo(0, 2), 4294967295L);
    }

    private static void due(ZipRecover x, int k, int name, int... data) {
        Check.due("pendingInfo(" + k + ", INFO_NAME)", x.pendingInfo(k, ZipRecover.INFO_NAME), name);
        Check.due("pendingInfo(" + k + ", INFO_SIZE)", x.pendingInfo(k, ZipRecover.INFO_SIZE), data.length);
        Check.due("pendingInfo(" + k + ", INFO_CRC)", x.pendingInfo(k, ZipRecover.INFO_CRC), Zips.crc(data));
    }

    private static void dueNone(ZipRecover x, int count) {
        for (int k : new int[] {-1, count, count + 1, 8, 9, 128, Integer.MIN_VALUE, Integer.MAX_VALUE}) {
            for (int what = -1; what < 5; what++) {
                Check.due("pendingInfo(" + k + ", " + what + ")", x.pendingInfo(k, what), -1);
            }
        }
    }
}
