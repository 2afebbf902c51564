/** Promise 8: salvage. */
final class SalvageTest {
    private static final int[] HI = {104, 105};

    public static void main(String[] args) {
        nothingToFind();
        ordinary();
        latestVersionWins();
        cutAtEveryLength();
        garbage();
        wrongCrc();
        recordInsideARecord();
        runsPastTheEnd();
        stepsOverCentral();
        stepsOverEnd();
        leavesFixedStart();
        full();
        fullOfRecords();
        anew();
        pendingStays();
        Check.end();
    }

    private static void dueSalvage(ZipRecover x, int found, int length) {
        Check.due("salvage()", x.salvage(), found);
        Check.due("length() after salvage", x.length(), length);
        Check.due("isOpenable() after salvage", x.isOpenable(), true);
        Check.due("foundInfo(" + found + ", 0)", x.foundInfo(found, 0), -1);
    }

    private static void nothingToFind() {
        int[][] images = {
            {}, {1}, {0x50, 0x4B, 3}, {0x50, 0x4B, 3, 4}, {0x50, 0x4B, 1, 2}, {0x50, 0x4B, 5, 6}, Zips.end(0, 0),
            Zips.end(3, 77), Zips.filler(64), Zips.filler(256), Zips.central(1, 0), Zips.join(Zips.central(1, 0), Zips.end(1, 0))};
        for (int[] image : images) {
            ZipRecover x = Zips.holding(image);
            dueSalvage(x, 0, 9);
            Zips.dueImage("after salvage of nothing", x, Zips.end(0, 0));
        }
        dueSalvage(new ZipRecover(64), 0, 9);
    }

    private static void ordinary() {
        ZipRecover x = new ZipRecover(256);
        Zips.stage(x, 7, HI);
        Zips.stage(x, 3, 1, 2, 3);
        x.commit();
        int[] image = Zips.image(x);
        dueSalvage(x, 2, 71);
        Zips.dueImage("after salvage of a sound image", x, image);
        Zips.dueFound(x, 0, 7, 2, Zips.crc(HI), 9);
        Zips.dueFound(x, 1, 3, 3, Zips.crc(1, 2, 3), 22);
        Zips.dueDir(x, 0, 3, 3, Zips.crc(1, 2, 3), 22);
        Zips.dueDir(x, 1, 7, 2, Zips.crc(HI), 9);
        Check.due("dirInfo(2, 0)", x.dirInfo(2, 0), -1);
    }

    private static void latestVersionWins() {
        int[] records = Zips.join(Zips.local(200, 1), Zips.local(0, 2), Zips.local(200, 3, 4), Zips.local(100), Zips.local(0));
        ZipRecover x = Zips.holding(Zips.join(records, Zips.bytes(9, 9, 9)));
        dueSalvage(x, 5, 59 + 39 + 9);
        Zips.dueImage("after salvage", x, records, Zips.central(0, 48), Zips.central(100, 37), Zips.central(200, 24, 3, 4),
            Zips.end(3, 59));
        Zips.dueFound(x, 0, 200, 1, Zips.crc(1), 0);
        Zips.dueFound(x, 1, 0, 1, Zips.crc(2), 12);
        Zips.dueFound(x, 2, 200, 2, Zips.crc(3, 4), 24);
        Zips.dueFound(x, 3, 100, 0, 0, 37);
        Zips.dueFound(x, 4, 0, 0, 0, 48);
    }

    private static void cutAtEveryLength() {
        int[] end = Zips.end(0, 0);
        int[] first = Zips.local(7, HI);
        int[] second = Zips.local(3, 1, 2, 3);
        for (int n = 0; n <= 71; n++) {
            ZipRecover x = new ZipRecover(256);
            Zips.stage(x, 7, HI);
            Zips.stage(x, 3, 1, 2, 3);
            x.commit();
            x.truncate(n);
            if (n < 22) {
                dueSalvage(x, 0, 9);
                Zips.dueImage("cut at " + n, x, end);
            } else if (n < 36) {
                dueSalvage(x, 1, 44);
                Zips.dueImage("cut at " + n, x, end, first, Zips.central(7, 9, HI), Zips.end(1, 22));
            } else {
                dueSalvage(x, 2, 71);
                Zips.dueImage("cut at " + n, x, end, first, second, Zips.central(3, 22, 1, 2, 3), Zips.central(7, 9, HI),
                    Zips.end(2, 36));
            }
        }
    }

    private static void garbage() {
        // Beginnings of signatures, whole ones with a wrong byte, and a signature after a doubled first byte.
        int[][] rubbish = {
            {0}, {0x50}, {0x50, 0x4B}, {0x50, 0x4B, 3}, {0x50, 0x50, 0x4B}, {0x50, 0x4B, 3, 5}, {0x50, 0x4B, 2, 4},
            {0x51, 0x4B, 3, 4}, {0x50, 0x4C, 3, 4}, {4, 3, 0x4B, 0x50}, {0x50, 0x4B, 5, 7}, {0x50, 0x4B, 1, 3}};
        for (int[] part : rubbish) {
            int[] start = Zips.join(part, Zips.local(8, 6));
            ZipRecover x = Zips.holding(Zips.join(start, part));
            dueSalvage(x, 1, start.length + 22);
            Zips.dueFound(x, 0, 8, 1, Zips.crc(6), part.length);
            Zips.dueImage("after garbage", x, start, Zips.central(8, part.length, 6), Zips.end(1, start.length));
            ZipRecover between = Zips.holding(Zips.join(start, part, Zips.local(9)));
            dueSalvage(between, 2, start.length + part.length + 11 + 35);
            Zips.dueFound(between, 1, 9, 0, 0, start.length + part.length);
        }
    }

    private static void wrongCrc() {
        int[] first = Zips.local(7, HI);
        int[] second = Zips.local(3, 1, 2, 3);
        for (int pos = 7; pos < 13; pos++) {
            for (int flip = 1; flip < 256; flip = flip * 2) {
                int[] damaged = first.clone();
                damaged[pos] = damaged[pos] ^ flip;
                ZipRecover x = Zips.holding(Zips.join(damaged, second));
                dueSalvage(x, 1, 27 + 22);
                Zips.dueFound(x, 0, 3, 3, Zips.crc(1, 2, 3), 13);
                Zips.dueImage("after a wrong crc", x, damaged, second, Zips.central(3, 13, 1, 2, 3), Zips.end(1, 27));
            }
        }
        // The name is not part of what the crc covers.
        int[] renamed = first.clone();
        renamed[4] = 255;
        ZipRecover x = Zips.holding(renamed);
        dueSalvage(x, 1, 13 + 22);
        Zips.dueFound(x, 0, 255, 2, Zips.crc(HI), 0);
        // A record without data has the crc 0, and no other.
        dueSalvage(Zips.holding(Zips.localHeader(1, 0, 0)), 1, 33);
        dueSalvage(Zips.holding(Zips.localHeader(1, 0, 0xFFFFFFFFL)), 0, 9);
        dueSalvage(Zips.holding(Zips.localHeader(1, 0, 1)), 0, 9);
    }

    private static void recordInsideARecord() {
        int[] inner = Zips.local(5, 1, 2);
        int[] outer = Zips.local(6, inner);
        ZipRecover sound = Zips.holding(outer);
        dueSalvage(sound, 1, 24 + 22);
        Zips.dueFound(sound, 0, 6, 13, Zips.crc(inner), 0);

        int[] damaged = outer.clone();
        damaged[7] = damaged[7] ^ 1;
        ZipRecover x = Zips.holding(damaged);
        dueSalvage(x, 1, 24 + 22);
        Zips.dueFound(x, 0, 5, 2, Zips.crc(1, 2), 11);
        Zips.dueImage("after salvage", x, damaged, Zips.central(5, 11, 1, 2), Zips.end(1, 24));

        // The inner one begins in the crc field of the outer one, which is wrong.
        int[] overlapping = Zips.join(Zips.bytes(0x50, 0x4B, 3, 4, 1, 4, 0), Zips.local(2, 9), Zips.bytes(7));
        ZipRecover y = Zips.holding(overlapping);
        dueSalvage(y, 1, 19 + 22);
        Zips.dueFound(y, 0, 2, 1, Zips.crc(9), 7);
    }

    private static void runsPastTheEnd() {
        int[] good = Zips.local(5, 1, 2);
        int[] later = Zips.local(6, 3);
        // The data just fits, or is one byte too long: then what lies inside is not looked at.
        int[] data = Zips.join(later, Zips.bytes(1));
        int[] fits = Zips.join(good, Zips.localHeader(9, data.length, 0), data);
        ZipRecover x = Zips.holding(fits);
        dueSalvage(x, 2, 36 + 26 + 9);
        Zips.dueFound(x, 1, 6, 1, Zips.crc(3), 24);
        for (int size : new int[] {data.length + 1, 255, 256, 32768, 65535}) {
            int[] past = Zips.join(good, Zips.localHeader(9, size, 0), data);
            ZipRecover y = Zips.holding(past);
            dueSalvage(y, 1, 13 + 22);
            Zips.dueFound(y, 0, 5, 2, Zips.crc(1, 2), 0);
            Zips.dueImage("after a stop", y, good, Zips.central(5, 0, 1, 2), Zips.end(1, 13));
        }
        // Sound data up to the last byte.
        ZipRecover whole = Zips.holding(good);
        dueSalvage(whole, 1, 35);
        int[] less = java.util.Arrays.copyOf(good, 12);
        dueSalvage(Zips.holding(less), 0, 9);
        // The size lies past the end: bytes left there from before must not be read.
        ZipRecover cut = Zips.holding(Zips.local(5));
        cut.truncate(10);
        dueSalvage(cut, 0, 9);
    }

    private static void stepsOverCentral() {
        // A local signature that begins at each place inside a central record is not seen.
        int[] inside = Zips.local(5);
        for (int at = 4; at < 13; at++) {
            int[] image = Zips.join(Zips.bytes(0x50, 0x4B, 1, 2), Zips.filler(at - 4), inside);
            dueSalvage(Zips.holding(image), 0, 9);
            // The same with a broken signature is garbage, and the local record is found.
            image[3] = 9;
            dueSalvage(Zips.holding(image), 1, at + 11 + 22);
        }
        int[] after = Zips.join(Zips.bytes(0x50, 0x4B, 1, 2), Zips.filler(9), inside);
        ZipRecover x = Zips.holding(after);
        dueSalvage(x, 1, 24 + 22);
        Zips.dueFound(x, 0, 5, 0, 0, 13);
    }

    private static void stepsOverEnd() {
        int[] inside = Zips.local(5);
        for (int at = 4; at < 9; at++) {
            int[] image = Zips.join(Zips.bytes(0x50, 0x4B, 5, 6), Zips.filler(at - 4), inside);
            dueSalvage(Zips.holding(image), 0, 9);
            image[3] = 9;
            dueSalvage(Zips.holding(image), 1, at + 11 + 22);
        }
        ZipRecover x = Zips.holding(Zips.join(Zips.bytes(0x50, 0x4B, 5, 6), Zips.filler(5), inside));
        dueSalvage(x, 1, 20 + 22);
        Zips.dueFound(x, 0, 5, 0, 0, 9);
    }

    private static void leavesFixedStart() {
        // Old directories and damaged records before the last good one stay as they are.
        ZipRecover x = new ZipRecover(256);
        Zips.stage(x, 7, HI);
        Zips.stage(x, 3, 1, 2, 3);
        x.commit();
        Zips.stage(x, 7, 80);
        Check.due("commit()", x.commit(), 71 + 12 + 26 + 9);
        x.poke(20, 0);
        x.poke(90, 0);
        int[] start = java.util.Arrays.copyOf(Zips.image(x), 83);
        dueSalvage(x, 2, 83 + 26 + 9);
        Zips.dueImage("after salvage", x, start, Zips.central(3, 22, 1, 2, 3), Zips.central(7, 71, 80), Zips.end(2, 83));
        Check.due("dataAt(7, 0)", x.dataAt(7, 0), 80);
        Check.due("dataAt(3, 2)", x.dataAt(3, 2), 3);
    }

    private static void full() {
        // Two names: 20 + 22 + 26 + 9 = 77; the same name twice: 20 + 22 + 13 + 9 = 64.
        int[] two = Zips.join(Zips.filler(20), Zips.local(1), Zips.local(2), Zips.filler(22));
        for (int capacity = 64; capacity <= 80; capacity++) {
            ZipRecover x = Zips.holding(capacity, two);
            Zips.stage(x, 9, 1);
            String pending = Zips.pending(x);
            if (capacity < 77) {
                Check.due("salvage() in " + capacity, x.salvage(), ZipRecover.ERR_FULL);
                Zips.dueImage("after ERR_FULL", x, two);
            } else {
                dueSalvage(x, 2, 77);
            }
            Zips.dueFound(x, 0, 1, 0, 0, 20);
            Zips.dueFound(x, 1, 2, 0, 0, 31);
            Check.due("foundInfo(2, 0)", x.foundInfo(2, 0), -1);
            Check.due("pending", Zips.pending(x), pending);
        }
        ZipRecover same = Zips.holding(64, Zips.join(Zips.filler(20), Zips.local(1), Zips.local(1), Zips.filler(22)));
        dueSalvage(same, 2, 64);
        ZipRecover over = Zips.holding(64, Zips.join(Zips.filler(21), Zips.local(1), Zips.local(1), Zips.filler(21)));
        Check.due("salvage()", over.salvage(), ZipRecover.ERR_FULL);
        Check.due("length()", over.length(), 64);
    }

    private static void fullOfRecords() {
        int[] image = new int[0];
        for (int i = 0; i < 23; i++) {
            image = Zips.join(image, Zips.local(i * 7));
        }
        image = Zips.join(image, Zips.bytes(0x50, 0x4B, 3));
        ZipRecover x = Zips.holding(image);
        Check.due("salvage() of 23 records", x.salvage(), ZipRecover.ERR_FULL);
        Zips.dueImage("after ERR_FULL", x, image);
        for (int i = 0; i < 23; i++) {
            Zips.dueFound(x, i, i * 7, 0, 0, 11 * i);
        }
        Check.due("foundInfo(23, 0)", x.foundInfo(23, 0), -1);
        // The first ten still fit: 110 + 130 + 9 = 249.
        x.truncate(110);
        dueSalvage(x, 10, 249);
        // One name alone, 21 times: 231 + 13 + 9 = 253.
        int[] many = new int[0];
        for (int i = 0; i < 21; i++) {
            many = Zips.join(many, Zips.local(4));
        }
        ZipRecover one = Zips.holding(many);
        dueSalvage(one, 21, 253);
        Zips.dueDir(one, 0, 4, 0, 0, 220);
        Check.due("dirInfo(1, 0)", one.dirInfo(1, 0), -1);
    }

    private static void anew() {
        ZipRecover x = Zips.busy();
        x.truncate(30);
        dueSalvage(x, 1, 44);
        Zips.dueFound(x, 0, 7, 2, Zips.crc(HI), 9);
        dueSalvage(x, 1, 44);
        x.truncate(3);
        dueSalvage(x, 0, 9);
        Check.due("foundInfo(0, 0)", x.foundInfo(0, 0), -1);
    }

    private static void pendingStays() {
        ZipRecover x = Zips.busy();
        String pending = Zips.pending(x);
        x.truncate(70);
        dueSalvage(x, 2, 71);
        Check.due("pending", Zips.pending(x), pending);
        Check.due("put(43)", x.put(43), true);
        Check.due("commit()", x.commit(), 71 + 13 + 39 + 9);
        Check.due("dataAt(9, 0)", x.dataAt(9, 0), 42);
        Check.due("dataAt(9, 1)", x.dataAt(9, 1), 43);
        // The capacity is as before.
        ZipRecover small = new ZipRecover(64);
        small.truncate(0);
        dueSalvage(small, 0, 9);
        Zips.stage(small, 1, Zips.filler(23));
        Check.due("commit() of 65 bytes", small.commit(), ZipRecover.ERR_FULL);
    }
}
