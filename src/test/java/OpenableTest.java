import java.util.Arrays;

/** Promise 11: isOpenable. */
final class OpenableTest {
    public static void main(String[] args) {
        endRecord();
        everyByteOfASoundImage();
        centralFields();
        names();
        places();
        overlaps();
        Check.end();
    }

    private static void due(String what, boolean want, int[]... parts) {
        ZipRecover x = Zips.holding(Zips.join(parts));
        String before = Zips.state(x);
        Check.due("isOpenable() of " + what, x.isOpenable(), want);
        Check.due("state after isOpenable() of " + what, Zips.state(x), before);
    }

    private static void endRecord() {
        due("nothing", false);
        due("8 bytes", false, Zips.bytes(0x50, 0x4B, 5, 6, 0, 0, 0, 0));
        due("an end record cut at its start", false, Zips.bytes(0x4B, 5, 6, 0, 0, 0, 0, 0));
        due("an end record", true, Zips.end(0, 0));
        due("an end record after 5 bytes", true, Zips.filler(5), Zips.end(0, 5));
        due("a full image", true, Zips.filler(247), Zips.end(0, 247));
        due("a byte after the end record", false, Zips.end(0, 0), Zips.bytes(0));
        due("a wrong dirOffset", false, Zips.end(0, 1));
        due("a dirOffset too low", false, Zips.filler(5), Zips.end(0, 4));
        due("a dirOffset too high", false, Zips.filler(5), Zips.end(0, 6));
        due("a dirOffset with a high byte", false, Zips.filler(5), Zips.end(0, 256 + 5));
        due("a dirSize without a count", false, Zips.filler(13), Zips.endOf(0, 0, 13));
        due("a count without a dirSize", false, Zips.filler(13), Zips.endOf(1, 13, 0));
        due("a dirSize with a high byte", false, Zips.end(0, 0).clone(), Zips.endOf(0, 9, 256));
        due("a count of 255", false, Zips.end(255, 0));
        due("a directory before the start", false, Zips.endOf(1, 65536 - 13, 13));
        int[] end = Zips.end(0, 0);
        for (int pos = 0; pos < 9; pos++) {
            for (int bit = 0; bit < 8; bit++) {
                int[] wrong = end.clone();
                wrong[pos] = wrong[pos] ^ (1 << bit);
                due("an end record with a wrong bit at " + pos, false, wrong);
            }
        }
    }

    private static void everyByteOfASoundImage() {
        ZipRecover x = Zips.busy();
        int[] image = Zips.image(x);
        for (int pos = 0; pos < 71; pos++) {
            boolean free = pos < 9 || pos == 20 || pos == 21 || pos >= 33 && pos < 36;
            for (int bit = 0; bit < 8; bit++) {
                x.poke(pos, image[pos] ^ (1 << bit));
                Check.due("isOpenable() with a wrong bit at " + pos, x.isOpenable(), free);
            }
            x.poke(pos, image[pos]);
            Check.due("isOpenable()", x.isOpenable(), true);
        }
    }

    private static void centralFields() {
        int[] one = Zips.local(1, 5, 6);
        due("a directory of one", true, one, Zips.central(1, 0, 5, 6), Zips.end(1, 13));
        due("another name", false, one, Zips.central(2, 0, 5, 6), Zips.end(1, 13));
        due("another size", false, one, Zips.centralOf(1, 1, Zips.crc(5, 6), 0), Zips.end(1, 13));
        due("another crc", false, one, Zips.centralOf(1, 2, Zips.crc(5, 6) ^ 0x80000000L, 0), Zips.end(1, 13));
        due("another offset", false, one, Zips.central(1, 1, 5, 6), Zips.end(1, 13));
        due("an offset past the image", false, one, Zips.central(1, 65535, 5, 6), Zips.end(1, 13));
        due("an offset with a high byte", false, one, Zips.central(1, 256, 5, 6), Zips.end(1, 13));
        due("a size with a high byte", false, one, Zips.centralOf(1, 258, Zips.crc(5, 6), 0), Zips.end(1, 13));
        due("no central signature", false, one, Zips.local(1), Zips.bytes(0, 0), Zips.end(1, 13));
        due("no local signature", false, Zips.filler(13), Zips.central(1, 0, 5, 6), Zips.end(1, 13));
        due("a crc that the data does not have", true, Zips.localHeader(1, 2, 77), Zips.bytes(5, 6),
            Zips.centralOf(1, 2, 77, 0), Zips.end(1, 13));
        due("a directory with a record left out", true, one, Zips.local(2), Zips.central(2, 13), Zips.end(1, 24));
        due("a directory that begins a record late", false, one, Zips.central(1, 0, 5, 6), Zips.central(2, 0),
            Zips.end(1, 13));
    }

    private static void names() {
        int[] locals = Zips.join(Zips.local(5), Zips.local(9), Zips.local(200));
        int[] five = Zips.central(5, 0);
        int[] nine = Zips.central(9, 11);
        int[] high = Zips.central(200, 22);
        due("ascending names", true, locals, five, nine, high, Zips.end(3, 33));
        due("a name twice", false, locals, five, five, Zips.end(2, 33));
        due("names that fall", false, locals, nine, five, Zips.end(2, 33));
        due("names that fall at the last", false, locals, five, high, nine, Zips.end(3, 33));
        due("a high name first", false, locals, high, nine, Zips.end(2, 33));
        int[] edges = Zips.join(Zips.local(0), Zips.local(255), Zips.local(127), Zips.local(128));
        due("the edges of the names", true, edges, Zips.central(0, 0), Zips.central(127, 22), Zips.central(128, 33),
            Zips.central(255, 11), Zips.end(4, 44));
        due("a wrong last record", false, locals, five, nine, Zips.central(200, 11), Zips.end(3, 33));
    }

    private static void places() {
        // The record must end at or before the directory; the crc here is free.
        int[] before = Zips.filler(3);
        due("data up to the directory", true, before, Zips.localHeader(1, 4, 9), Zips.filler(4),
            Zips.centralOf(1, 4, 9, 3), Zips.end(1, 18));
        due("data one byte into the directory", false, before, Zips.localHeader(1, 5, 9), Zips.filler(4),
            Zips.centralOf(1, 5, 9, 3), Zips.end(1, 18));
        due("data past the image", false, before, Zips.localHeader(1, 65535, 9), Zips.filler(4),
            Zips.centralOf(1, 65535, 9, 3), Zips.end(1, 18));
        due("a header up to the directory", true, before, Zips.local(1), Zips.central(1, 3), Zips.end(1, 14));
        due("a header that ends in the directory", false, Zips.bytes(0x50, 0x4B, 3, 4, 1, 0, 0),
            Zips.centralOf(1, 0, 0x02014B50L, 0), Zips.end(1, 7));
    }

    private static void overlaps() {
        // Two headers that share bytes: the crc of the first is the signature of the second.
        int[] image = Zips.join(Zips.bytes(0x50, 0x4B, 3, 4, 1, 0, 0), Zips.local(2),
            Zips.centralOf(1, 0, 0x04034B50L, 0), Zips.central(2, 7), Zips.end(2, 18));
        due("records that overlap", true, image);
        int[] inner = Zips.local(5, 1, 2);
        due("a record inside another's data", true, Zips.local(6, inner), Zips.central(5, 11, 1, 2),
            Zips.central(6, 0, inner), Zips.end(2, 24));
        // The bytes that lay past a cut must not make the image openable again.
        ZipRecover x = Zips.holding(Zips.end(0, 0));
        for (int n = 8; n >= 0; n--) {
            x.truncate(n);
            Check.due("isOpenable() of " + n + " bytes", x.isOpenable(), false);
        }
        Check.due("bytes left", Arrays.toString(Zips.image(x)), "[]");
    }
}
