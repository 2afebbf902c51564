/** Promise 3: put. */
final class PutTest {
    public static void main(String[] args) {
        withoutEntry();
        bytes();
        atMost128();
        growsTheLastEntryOnly();
        Check.end();
    }

    private static void withoutEntry() {
        ZipRecover x = new ZipRecover(256);
        String before = Zips.state(x);
        Check.due("put(1) on a new object", x.put(1), false);
        Check.due("state", Zips.state(x), before);
        Zips.stage(x, 1, 5);
        x.discard();
        Check.due("put(1) after discard", x.put(1), false);
        Zips.stage(x, 1, 5);
        x.commit();
        before = Zips.state(x);
        Check.due("put(1) after commit", x.put(1), false);
        Check.due("state", Zips.state(x), before);
        x.add(1);
        Check.due("size of a new entry after a refused put", x.pendingInfo(0, 1), 0);
    }

    private static void bytes() {
        ZipRecover x = Zips.busy();
        String before = Zips.state(x);
        for (int b : Zips.NOT_BYTES) {
            Check.due("put(" + b + ")", x.put(b), false);
            Check.due("state after put(" + b + ")", Zips.state(x), before);
        }
        for (int b : new int[] {0, 255, 127, 128}) {
            Check.due("put(" + b + ")", x.put(b), true);
        }
        Check.due("size", x.pendingInfo(0, 1), 5);
        Check.due("crc", x.pendingInfo(0, 2), Zips.crc(42, 0, 255, 127, 128));
        x.commit();
        int[] data = {42, 0, 255, 127, 128};
        for (int j = 0; j < data.length; j++) {
            Check.due("dataAt(9, " + j + ")", x.dataAt(9, j), data[j]);
        }
    }

    private static void atMost128() {
        ZipRecover one = new ZipRecover(256);
        Zips.stage(one, 1, Zips.filler(127));
        Check.due("the 128th put", one.put(7), true);
        String before = Zips.state(one);
        Check.due("the 129th put", one.put(7), false);
        Check.due("a wrong 129th put", one.put(-1), false);
        Check.due("state", Zips.state(one), before);
        Check.due("commit()", one.commit(), 170);
        Check.due("dataAt(1, 127)", one.dataAt(1, 127), 7);

        ZipRecover many = new ZipRecover(256);
        Zips.stage(many, 1, Zips.filler(100));
        Zips.stage(many, 2, Zips.filler(27));
        Zips.stage(many, 3, 8);
        before = Zips.state(many);
        Check.due("the 129th put of three entries", many.put(7), false);
        Check.due("state", Zips.state(many), before);
        many.discard();
        Zips.stage(many, 4, Zips.filler(128));
        Check.due("the 129th put after discard", many.put(7), false);
        Check.due("commit()", many.commit(), 170);
        Zips.stage(many, 4, Zips.filler(128));
        Check.due("the 129th put after commit", many.put(7), false);
        Check.due("size", many.pendingInfo(0, 1), 128);
    }

    private static void growsTheLastEntryOnly() {
        ZipRecover x = Zips.busy();
        int[] image = Zips.image(x);
        String found = Zips.found(x);
        String directory = Zips.directory(x);
        Zips.stage(x, 7);
        for (int n = 0; n < 9; n++) {
            Check.due("put", x.put(0x31 + n), true);
            Check.due("size of the last", x.pendingInfo(1, 1), n + 1);
        }
        Check.due("crc of the last", x.pendingInfo(1, 2), 0xCBF43926L);
        Check.due("name of the last", x.pendingInfo(1, 0), 7);
        Check.due("name of the first", x.pendingInfo(0, 0), 9);
        Check.due("size of the first", x.pendingInfo(0, 1), 1);
        Check.due("crc of the first", x.pendingInfo(0, 2), Zips.crc(42));
        Zips.dueImage("after put", x, image);
        Check.due("found after put", Zips.found(x), found);
        Check.due("directory after put", Zips.directory(x), directory);
    }
}
