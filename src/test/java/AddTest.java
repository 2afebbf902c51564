/** Promise 2: add. */
final class AddTest {
    public static void main(String[] args) {
        names();
        atMostEight();
        sameNameTwice();
        changesNothingElse();
        Check.end();
    }

    private static void names() {
        ZipRecover x = Zips.busy();
        String before = Zips.state(x);
        for (int name : Zips.NOT_BYTES) {
            Check.due("add(" + name + ")", x.add(name), false);
            Check.due("state after add(" + name + ")", Zips.state(x), before);
        }
        x = new ZipRecover(64);
        for (int name : new int[] {0, 255, 128, 127}) {
            Check.due("add(" + name + ")", x.add(name), true);
        }
        Check.due("pending", Zips.pending(x).startsWith("pending 0/0/0 255/0/0 128/0/0 127/0/0 -1/-1/-1"), true);
    }

    private static void atMostEight() {
        ZipRecover x = new ZipRecover(256);
        for (int k = 0; k < 8; k++) {
            Check.due("add number " + k, x.add(20 - k), true);
            Check.due("pendingInfo(k, 0)", x.pendingInfo(k, 0), 20 - k);
            Check.due("pendingInfo(k + 1, 0)", x.pendingInfo(k + 1, 0), -1);
        }
        String before = Zips.state(x);
        Check.due("a ninth add", x.add(1), false);
        Check.due("a ninth add of a name that is pending", x.add(20), false);
        Check.due("a ninth add of a wrong name", x.add(256), false);
        Check.due("state after a ninth add", Zips.state(x), before);
        Check.due("put after a refused add", x.put(5), true);
        Check.due("size of the eighth", x.pendingInfo(7, 1), 1);
    }

    private static void sameNameTwice() {
        ZipRecover x = new ZipRecover(256);
        Zips.stage(x, 4, 1, 2);
        Zips.stage(x, 4);
        Check.due("size of the first", x.pendingInfo(0, 1), 2);
        Check.due("size of the second", x.pendingInfo(1, 1), 0);
        Check.due("put(9)", x.put(9), true);
        Check.due("size of the first", x.pendingInfo(0, 1), 2);
        Check.due("crc of the first", x.pendingInfo(0, 2), Zips.crc(1, 2));
        Check.due("size of the second", x.pendingInfo(1, 1), 1);
        Check.due("crc of the second", x.pendingInfo(1, 2), Zips.crc(9));
    }

    private static void changesNothingElse() {
        ZipRecover x = Zips.busy();
        String found = Zips.found(x);
        String directory = Zips.directory(x);
        int[] image = Zips.image(x);
        Check.due("add(7)", x.add(7), true);
        Zips.dueImage("after add", x, image);
        Check.due("found after add", Zips.found(x), found);
        Check.due("directory after add", Zips.directory(x), directory);

        // A full pending data store does not hinder an entry without data.
        ZipRecover full = new ZipRecover(256);
        Zips.stage(full, 1, Zips.filler(128));
        Check.due("add with 128 bytes pending", full.add(2), true);
        Check.due("size", full.pendingInfo(1, 1), 0);
        Check.due("crc", full.pendingInfo(1, 2), 0);
        Check.due("put", full.put(1), false);

        ZipRecover shut = Zips.holding(Zips.bytes(1, 2, 3));
        Check.due("add while not openable", shut.add(8), true);
        Zips.dueImage("after add", shut, Zips.bytes(1, 2, 3));
    }
}
