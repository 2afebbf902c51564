/** The boundary cases that promise 7 names, a test for each sentence. */
final class PokeEdgesTest {
    private static final String SEVEN = "Promise 7";

    public static void main(String[] args) {
        wrongPlace();
        wrongByte();
        refusalChangesNothing();
        written();
        restStays();
        notOpenable();
        Check.end();
    }

    private static void dueRefused(ZipRecover x, int pos, int v) {
        Zips.dueUnchanged("poke(" + pos + ", " + v + ") of " + x.length(), x, () -> x.poke(pos, v), false);
    }

    private static void wrongPlace() {
        Check.sentence(SEVEN, "If `pos < 0` or `pos >= length`, it answers false.");
        for (int length : new int[] {71, 70, 9, 1, 0}) {
            ZipRecover x = Zips.busy();
            x.truncate(length);
            for (int pos : new int[] {-1, -2, length, length + 1, 71, 255, 256, 65536}) {
                dueRefused(x, pos, 9);
            }
            dueRefused(x, Integer.MIN_VALUE, 9);
            dueRefused(x, Integer.MAX_VALUE, 9);
            if (length > 0) {
                Check.due("poke(0, 9)", x.poke(0, 9), true);
                Check.due("poke(length - 1, 9)", x.poke(length - 1, 9), true);
            }
        }
        ZipRecover full = Zips.holding(Zips.filler(256));
        Check.due("poke(255, 1)", full.poke(255, 1), true);
        dueRefused(full, 256, 1);
    }

    private static void wrongByte() {
        Check.sentence(SEVEN, "Otherwise, if `v < 0` or `v > 255`, it answers false.");
        ZipRecover x = Zips.busy();
        for (int pos : new int[] {0, 35, 70}) {
            for (int v : Zips.NOT_BYTES) {
                dueRefused(x, pos, v);
            }
            Check.due("poke(" + pos + ", 0)", x.poke(pos, 0), true);
            Check.due("byteAt(" + pos + ")", x.byteAt(pos), 0);
            Check.due("poke(" + pos + ", 255)", x.poke(pos, 255), true);
            Check.due("byteAt(" + pos + ")", x.byteAt(pos), 255);
        }
    }

    private static void refusalChangesNothing() {
        Check.sentence(SEVEN, "On a refusal nothing changes.");
        for (int length : new int[] {71, 30, 0}) {
            ZipRecover x = Zips.busy();
            x.truncate(length);
            dueRefused(x, length, 77);
            dueRefused(x, -1, 77);
            dueRefused(x, length, 256);
            dueRefused(x, -1, -1);
            dueRefused(x, 0, 256);
            Zips.dueCapacity(x, 256);
        }
        // Nor does a refused byte appear once the image grows over its place.
        ZipRecover x = new ZipRecover(64);
        dueRefused(x, 9, 77);
        Zips.stage(x, 1);
        x.commit();
        Check.due("byteAt(9)", x.byteAt(9), 0x50);
    }

    private static void written() {
        Check.sentence(SEVEN, "Otherwise `image[pos] = v` and the answer is true.");
        ZipRecover x = Zips.busy();
        for (int pos = 0; pos < 71; pos++) {
            for (int v : new int[] {0, 1, 127, 128, 254, 255}) {
                Check.due("poke(" + pos + ", " + v + ")", x.poke(pos, v), true);
                Check.due("byteAt(" + pos + ")", x.byteAt(pos), v);
            }
        }
    }

    private static void restStays() {
        Check.sentence(SEVEN, "`length` does not change, and neither do the other bytes, the pending list, the found list or the "
            + "capacity.");
        ZipRecover x = Zips.busy();
        int[] image = Zips.image(x);
        String pending = Zips.pending(x);
        String found = Zips.found(x);
        for (int pos = 0; pos < 71; pos++) {
            image[pos] = 255 - image[pos];
            Check.due("poke(" + pos + ", " + image[pos] + ")", x.poke(pos, image[pos]), true);
            Check.due("length()", x.length(), 71);
            Zips.dueImage("after poke", x, image);
            Check.due("pending", Zips.pending(x), pending);
            Check.due("found", Zips.found(x), found);
        }
        Zips.dueCapacity(x, 256);
        ZipRecover small = new ZipRecover(64);
        small.poke(8, 255);
        Zips.dueCapacity(small, 64);
    }

    private static void notOpenable() {
        Check.sentence(SEVEN, "The image may become not openable.");
        ZipRecover x = new ZipRecover(64);
        for (int pos = 0; pos < 9; pos++) {
            int old = x.byteAt(pos);
            Check.due("poke", x.poke(pos, old + 1), true);
            Check.due("isOpenable() with a wrong byte at " + pos, x.isOpenable(), false);
            Check.due("poke", x.poke(pos, old), true);
            Check.due("isOpenable() with the byte back at " + pos, x.isOpenable(), true);
        }
        // Data and old records that the directory does not use may change.
        ZipRecover busy = Zips.busy();
        for (int pos : new int[] {0, 8, 20, 21, 33, 35}) {
            Check.due("poke", busy.poke(pos, 200), true);
            Check.due("isOpenable() with a wrong byte at " + pos, busy.isOpenable(), true);
        }
    }
}
