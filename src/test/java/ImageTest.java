/** Promises 9 and 10: length and byteAt. */
final class ImageTest {
    public static void main(String[] args) {
        length();
        byteAt();
        Check.end();
    }

    private static void length() {
        ZipRecover x = new ZipRecover(200);
        Check.due("length()", x.length(), 9);
        Zips.stage(x, 1, 2, 3);
        Check.due("length() with an entry pending", x.length(), 9);
        x.commit();
        Check.due("length() after commit", x.length(), 44);
        x.truncate(40);
        Check.due("length() after truncate", x.length(), 40);
        x.poke(39, 1);
        Check.due("length() after poke", x.length(), 40);
        x.salvage();
        Check.due("length() after salvage", x.length(), 44);
        x.truncate(0);
        Check.due("length() after truncate(0)", x.length(), 0);
        String before = Zips.state(x);
        x.length();
        Check.due("state", Zips.state(x), before);
    }

    private static void byteAt() {
        ZipRecover x = Zips.busy();
        String before = Zips.state(x);
        for (int pos : new int[] {-1, -2, 71, 72, 255, 256, 257, Integer.MIN_VALUE, Integer.MAX_VALUE}) {
            Check.due("byteAt(" + pos + ")", x.byteAt(pos), -1);
        }
        Check.due("byteAt(0)", x.byteAt(0), 0x50);
        Check.due("byteAt(17)", x.byteAt(17), 0x2A);
        Check.due("byteAt(19)", x.byteAt(19), 0xD8);
        Check.due("byteAt(70)", x.byteAt(70), 0);
        Check.due("state", Zips.state(x), before);
        x.truncate(20);
        Check.due("byteAt(20) after a cut", x.byteAt(20), -1);
        Check.due("byteAt(19) after a cut", x.byteAt(19), 0xD8);
        for (int v = 0; v < 256; v++) {
            x.poke(5, v);
            Check.due("byteAt(5)", x.byteAt(5), v);
        }
        int[] whole = new int[256];
        for (int pos = 0; pos < 256; pos++) {
            whole[pos] = pos;
        }
        ZipRecover full = Zips.holding(whole);
        Check.due("byteAt(255) of a full image", full.byteAt(255), 255);
        Check.due("byteAt(256) of a full image", full.byteAt(256), -1);
    }
}
