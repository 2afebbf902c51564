/** Promises 12, 13 and 14: dirInfo, sizeOf and dataAt. */
final class LookupTest {
    public static void main(String[] args) {
        dirInfo();
        sizeOf();
        dataAt();
        whenNotOpenable();
        otherImages();
        Check.end();
    }

    private static void dirInfo() {
        ZipRecover x = Zips.busy();
        String before = Zips.state(x);
        Zips.dueDir(x, 0, 3, 3, 1438416925L, 22);
        Zips.dueDir(x, 1, 7, 2, 3633523372L, 9);
        for (int what = -1; what < 5; what++) {
            for (int i : new int[] {-1, 2, 3, 255, 256, Integer.MIN_VALUE, Integer.MAX_VALUE}) {
                Check.due("dirInfo(" + i + ", " + what + ")", x.dirInfo(i, what), -1);
            }
        }
        for (int what : Zips.NOT_FIELDS) {
            Check.due("dirInfo(0, " + what + ")", x.dirInfo(0, what), -1);
            Check.due("dirInfo(1, " + what + ")", x.dirInfo(1, what), -1);
        }
        Check.due("state", Zips.state(x), before);

        int[] image = Zips.join(Zips.localHeader(255, 0, 0xFFFFFFFFL), Zips.centralOf(255, 0, 0xFFFFFFFFL, 0), Zips.end(1, 11));
        Zips.dueDir(Zips.holding(image), 0, 255, 0, 4294967295L, 0);
        int[] ordered = Zips.join(Zips.localHeader(1, 0, 0x04030201L), Zips.centralOf(1, 0, 0x04030201L, 0), Zips.end(1, 11));
        Zips.dueDir(Zips.holding(ordered), 0, 1, 0, 0x04030201L, 0);
    }

    private static void sizeOf() {
        ZipRecover x = Zips.busy();
        String before = Zips.state(x);
        for (int name = 0; name < 256; name++) {
            int want = name == 3 ? 3 : name == 7 ? 2 : -1;
            Check.due("sizeOf(" + name + ")", x.sizeOf(name), want);
        }
        for (int name : new int[] {-1, 256, 259, 263, 3 - 256, 65536 + 7, Integer.MIN_VALUE, Integer.MAX_VALUE}) {
            Check.due("sizeOf(" + name + ")", x.sizeOf(name), -1);
        }
        Check.due("state", Zips.state(x), before);
        ZipRecover edges = new ZipRecover(256);
        Zips.stage(edges, 255, 1, 2, 3, 4);
        Zips.stage(edges, 0);
        edges.commit();
        Check.due("sizeOf(255)", edges.sizeOf(255), 4);
        Check.due("sizeOf(0)", edges.sizeOf(0), 0);
        Check.due("sizeOf(-1)", edges.sizeOf(-1), -1);
        Check.due("sizeOf(1)", edges.sizeOf(1), -1);
    }

    private static void dataAt() {
        ZipRecover x = Zips.busy();
        String before = Zips.state(x);
        int[] three = {1, 2, 3};
        for (int j = 0; j < 3; j++) {
            Check.due("dataAt(3, " + j + ")", x.dataAt(3, j), three[j]);
        }
        Check.due("dataAt(7, 0)", x.dataAt(7, 0), 104);
        Check.due("dataAt(7, 1)", x.dataAt(7, 1), 105);
        for (int j : new int[] {-1, -11, 3, 4, 255, 256, Integer.MIN_VALUE, Integer.MAX_VALUE}) {
            Check.due("dataAt(3, " + j + ")", x.dataAt(3, j), -1);
            Check.due("dataAt(9, " + j + ")", x.dataAt(9, j), -1);
        }
        Check.due("dataAt(7, 2)", x.dataAt(7, 2), -1);
        for (int name : new int[] {-1, 0, 2, 4, 9, 256, 259, Integer.MIN_VALUE, Integer.MAX_VALUE}) {
            Check.due("dataAt(" + name + ", 0)", x.dataAt(name, 0), -1);
        }
        Check.due("state", Zips.state(x), before);
        // The data is what the image holds, whether the crc matches or not.
        for (int v = 0; v < 256; v++) {
            x.poke(35, v);
            Check.due("dataAt(3, 2)", x.dataAt(3, 2), v);
        }
        ZipRecover empty = new ZipRecover(64);
        Zips.stage(empty, 1);
        empty.commit();
        Check.due("dataAt(1, 0)", empty.dataAt(1, 0), -1);
        Check.due("dataAt(1, -1)", empty.dataAt(1, -1), -1);
    }

    private static void whenNotOpenable() {
        ZipRecover x = Zips.busy();
        x.truncate(70);
        dueNothing(x);
        ZipRecover y = Zips.busy();
        y.poke(9, 0);
        dueNothing(y);
        // One wrong record shuts the whole directory.
        ZipRecover z = Zips.busy();
        z.poke(22, 0);
        dueNothing(z);
        ZipRecover none = Zips.busy();
        none.truncate(0);
        dueNothing(none);
    }

    private static void dueNothing(ZipRecover x) {
        for (int name = 0; name < 10; name++) {
            Check.due("sizeOf(" + name + ")", x.sizeOf(name), -1);
            Check.due("dataAt(" + name + ", 0)", x.dataAt(name, 0), -1);
            for (int what = 0; what < 4; what++) {
                Check.due("dirInfo(" + name + ", " + what + ")", x.dirInfo(name, what), -1);
            }
        }
    }

    private static void otherImages() {
        // Lookups go through the directory: a later record that it does not list is not seen.
        int[] image = Zips.join(Zips.local(1, 11), Zips.local(1, 12), Zips.local(2, 13), Zips.central(1, 0, 11), Zips.end(1, 36));
        ZipRecover x = Zips.holding(image);
        Check.due("dataAt(1, 0)", x.dataAt(1, 0), 11);
        Check.due("sizeOf(2)", x.sizeOf(2), -1);
        int[] long200 = Zips.filler(200);
        long200[199] = 1;
        ZipRecover large = Zips.holding(Zips.join(Zips.local(1, long200), Zips.central(1, 0, long200), Zips.end(1, 211)));
        Check.due("sizeOf(1)", large.sizeOf(1), 200);
        Check.due("dataAt(1, 199)", large.dataAt(1, 199), 1);
        Check.due("dataAt(1, 200)", large.dataAt(1, 200), -1);
        Check.due("dirInfo(0, 1)", large.dirInfo(0, 1), 200);
    }
}
