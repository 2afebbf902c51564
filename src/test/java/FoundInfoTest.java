/** Promise 16: foundInfo. */
final class FoundInfoTest {
    public static void main(String[] args) {
        ZipRecover x = new ZipRecover(256);
        dueNone(x, 0);
        Zips.stage(x, 7, 104, 105);
        Zips.stage(x, 3, 1, 2, 3);
        Zips.stage(x, 7, 255, 255, 255, 255);
        x.commit();
        dueNone(x, 0);
        Check.due("salvage()", x.salvage(), 3);
        dueAll(x);
        String before = Zips.state(x);
        x.foundInfo(0, 2);
        Check.due("state", Zips.state(x), before);
        for (int i = 0; i < 3; i++) {
            for (int what : Zips.NOT_FIELDS) {
                Check.due("foundInfo(" + i + ", " + what + ")", x.foundInfo(i, what), -1);
            }
        }
        // What was found stays, whatever happens to the image and the pending list.
        for (int pos = 0; pos < x.length(); pos++) {
            x.poke(pos, 0);
        }
        dueAll(x);
        x.truncate(0);
        dueAll(x);
        x.add(1);
        x.put(2);
        x.discard();
        x.commit();
        dueAll(x);
        Check.due("salvage()", x.salvage(), 0);
        dueNone(x, 0);
        Check.end();
    }

    private static void dueAll(ZipRecover x) {
        Zips.dueFound(x, 0, 7, 2, 3633523372L, 9);
        Zips.dueFound(x, 1, 3, 3, 1438416925L, 22);
        Zips.dueFound(x, 2, 7, 4, 4294967295L, 36);
        dueNone(x, 3);
    }

    private static void dueNone(ZipRecover x, int count) {
        for (int i : new int[] {-1, count, count + 1, 22, 23, 24, 256, Integer.MIN_VALUE, Integer.MAX_VALUE}) {
            for (int what = -1; what < 5; what++) {
                Check.due("foundInfo(" + i + ", " + what + ")", x.foundInfo(i, what), -1);
            }
        }
    }
}
