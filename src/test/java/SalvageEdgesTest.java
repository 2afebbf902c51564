import java.util.Arrays;

/** The boundary cases that promise 8 names, and "What it is" says of salvage, a test for each sentence. */
final class SalvageEdgesTest {
    private static final String EIGHT = "Promise 8";
    private static final String INTRO = "What it is";
    private static final int[] GOOD = Zips.local(5, 1, 2);

    public static void main(String[] args) {
        fitsAndMatches();
        stepsOverWholeRecords();
        resynchronises();
        stopsAtARecordPastTheEnd();
        wouldExceed();
        emptiedFirst();
        fourBytesLeft();
        headerCutOff();
        dataCutOff();
        crcMatches();
        crcDiffers();
        centralRecord();
        endRecord();
        noSignature();
        foundListStays();
        endOfTheLastFound();
        lastOfEachName();
        overCapacity();
        cutAtC();
        directoryAtC();
        newLength();
        answer();
        bytesBelow();
        openableAfterwards();
        nothingFound();
        pendingAndCapacityStay();
        Check.end();
    }

    /** The object after a salvage that answered so. */
    private static ZipRecover salvaged(int found, int[]... parts) {
        ZipRecover x = Zips.holding(Zips.join(parts));
        Check.due("salvage()", x.salvage(), found);
        Check.due("foundInfo(" + found + ", 0)", x.foundInfo(found, 0), -1);
        Check.due("isOpenable()", x.isOpenable(), true);
        return x;
    }

    /** A salvage that finds just the record GOOD, which is the first part. */
    private static void dueGoodAlone(int[]... parts) {
        ZipRecover x = salvaged(1, parts);
        Zips.dueFound(x, 0, 5, 2, Zips.crc(1, 2), 0);
        Zips.dueImage("after salvage", x, GOOD, Zips.central(5, 0, 1, 2), Zips.end(1, 13));
    }

    private static void fitsAndMatches() {
        Check.sentence(INTRO, "it accepts local records whose data fits and whose CRC matches;");
        salvaged(1, GOOD);
        salvaged(0, Arrays.copyOf(GOOD, 12));
        int[] wrong = GOOD.clone();
        wrong[12] = 3;
        salvaged(0, wrong);
    }

    private static void stepsOverWholeRecords() {
        Check.sentence(INTRO, "it steps over whole central and end records;");
        // Each of them has the beginning of a local record inside, which is not seen.
        salvaged(0, Zips.bytes(0x50, 0x4B, 1, 2, 0, 0, 0, 0, 0, 0, 0, 0), Zips.local(1));
        salvaged(1, Zips.bytes(0x50, 0x4B, 1, 2, 0, 0, 0, 0, 0, 0, 0, 0, 0), Zips.local(1));
        salvaged(0, Zips.bytes(0x50, 0x4B, 5, 6, 0, 0, 0, 0), Zips.local(1));
        salvaged(1, Zips.bytes(0x50, 0x4B, 5, 6, 0, 0, 0, 0, 0), Zips.local(1));
    }

    private static void resynchronises() {
        Check.sentence(INTRO, "it resynchronises byte by byte on garbage;");
        for (int size = 0; size <= 30; size++) {
            ZipRecover x = salvaged(2, GOOD, Zips.filler(size), Zips.local(6));
            Zips.dueFound(x, 1, 6, 0, 0, 13 + size);
        }
    }

    private static void stopsAtARecordPastTheEnd() {
        Check.sentence(INTRO, "it stops at a record that runs past the end.");
        int[] rest = Zips.local(6);
        salvaged(2, GOOD, Zips.localHeader(9, rest.length, 1), rest);
        dueGoodAlone(GOOD, Zips.localHeader(9, rest.length + 1, 1), rest);
    }

    private static void wouldExceed() {
        Check.sentence(INTRO, "so the archive can be read again, unless the rebuilt image would exceed the capacity, in which case "
            + "it answers ERR_FULL and leaves the image as it is (see Promise 8).");
        // Cut back to its last data byte, the archive needs its 64 bytes again.
        int[] data = Zips.filler(31);
        ZipRecover x = Zips.holding(64, Zips.local(1, data));
        Check.due("isOpenable()", x.isOpenable(), false);
        Check.due("salvage() to 64", x.salvage(), 1);
        Check.due("sizeOf(1)", x.sizeOf(1), 31);
        int[] image = Zips.local(1, Zips.filler(32));
        ZipRecover over = Zips.holding(64, image);
        Check.due("salvage() to 65", over.salvage(), ZipRecover.ERR_FULL);
        Zips.dueImage("after ERR_FULL", over, image);
        Check.due("isOpenable()", over.isOpenable(), false);
    }

    private static void emptiedFirst() {
        Check.sentence(EIGHT, "The found list is emptied and p = 0.");
        ZipRecover x = Zips.holding(Zips.join(GOOD, Zips.local(6)));
        Check.due("salvage()", x.salvage(), 2);
        Zips.dueFound(x, 0, 5, 2, Zips.crc(1, 2), 0);
        Check.due("salvage() again", x.salvage(), 2);
        Zips.dueFound(x, 1, 6, 0, 0, 13);
        Check.due("foundInfo(2, 0)", x.foundInfo(2, 0), -1);
        x.truncate(13);
        Check.due("salvage() of less", x.salvage(), 1);
        Check.due("foundInfo(1, 0)", x.foundInfo(1, 0), -1);
        x.truncate(0);
        Check.due("salvage() of nothing", x.salvage(), 0);
        Check.due("foundInfo(0, 0)", x.foundInfo(0, 0), -1);
        // Also when the new one ends with ERR_FULL.
        ZipRecover full = Zips.holding(64, Zips.join(Zips.local(1), Zips.local(2), Zips.filler(1), Zips.local(3), Zips.local(4)));
        Check.due("salvage()", full.salvage(), ZipRecover.ERR_FULL);
        Check.due("foundInfo(3, 0)", full.foundInfo(3, 0), 4);
        full.poke(0, 0);
        Check.due("salvage()", full.salvage(), ZipRecover.ERR_FULL);
        Check.due("foundInfo(0, 0)", full.foundInfo(0, 0), 2);
        Check.due("foundInfo(3, 0)", full.foundInfo(3, 0), -1);
    }

    private static void fourBytesLeft() {
        Check.sentence(EIGHT, "While p + 4 <= `length`, the bytes at p decide the step:");
        int[][] signatures = {{0x50, 0x4B, 3, 4}, {0x50, 0x4B, 1, 2}, {0x50, 0x4B, 5, 6}, {1, 2, 3, 4}};
        for (int[] signature : signatures) {
            for (int size = 0; size <= 4; size++) {
                int[] tail = Arrays.copyOf(signature, size);
                ZipRecover x = salvaged(0, tail);
                Zips.dueImage("after salvage of " + size + " bytes", x, Zips.end(0, 0));
                dueGoodAlone(GOOD, tail);
            }
        }
        // A signature whose last byte lies past the end is none, though the byte is still there.
        ZipRecover cut = Zips.holding(GOOD);
        cut.truncate(3);
        Check.due("salvage() of 3 bytes", cut.salvage(), 0);
        // In an image of 256 bytes the last record ends with the last byte.
        ZipRecover full = Zips.holding(Zips.join(Zips.filler(245), Zips.local(6)));
        Check.due("salvage()", full.salvage(), ZipRecover.ERR_FULL);
        Zips.dueFound(full, 0, 6, 0, 0, 245);
    }

    private static void headerCutOff() {
        Check.sentence(EIGHT, "If p + 11 > `length`, the scan stops.");
        int[] header = Zips.local(6);
        salvaged(2, GOOD, header);
        for (int size = 4; size <= 10; size++) {
            dueGoodAlone(GOOD, Arrays.copyOf(header, size));
            // The rest of the header is still stored, and must not be read.
            ZipRecover x = Zips.holding(Zips.join(GOOD, header));
            x.truncate(13 + size);
            Check.due("salvage() with a header cut to " + size, x.salvage(), 1);
        }
    }

    private static void dataCutOff() {
        Check.sentence(EIGHT, "Otherwise let z be the size field. If p + 11 + z > `length`, the scan stops.");
        int[] data = Zips.join(Zips.local(6), Zips.bytes(9));
        // With a sound crc the data may reach the last byte.
        ZipRecover sound = salvaged(2, GOOD, Zips.local(9, data));
        Zips.dueFound(sound, 1, 9, 12, Zips.crc(data), 13);
        // With a wrong one the record inside is found, unless the data runs past the end.
        ZipRecover inside = salvaged(2, GOOD, Zips.localHeader(9, 12, 1), data);
        Zips.dueFound(inside, 1, 6, 0, 0, 24);
        // The last sizes would fit if 16 bits wrapped around.
        for (int size : new int[] {13, 14, 255, 256, 256 + 12, 32767, 32768, 65535 - 23, 65535 - 11, 65535 - 10, 65535}) {
            dueGoodAlone(GOOD, Zips.localHeader(9, size, 1), data);
            dueGoodAlone(GOOD, Zips.localHeader(9, size, 0), data);
        }
        // Nor is data read that a cut has left in store.
        ZipRecover cut = Zips.holding(Zips.join(GOOD, Zips.local(9, data)));
        cut.truncate(13 + 11 + 11);
        Check.due("salvage() of cut data", cut.salvage(), 1);
    }

    private static void crcMatches() {
        Check.sentence(EIGHT, "Otherwise, if the CRC-32 of the z bytes at p + 11 equals the record's crc field, the tuple (name, z, "
            + "crc, offset p) is appended to the found list and p = p + 11 + z.");
        int[][] records = {Zips.local(0), Zips.local(255, 0), Zips.local(0, 255, 255, 255, 255), Zips.local(7, Zips.filler(60)),
            Zips.local(1, 0x9D, 0x0A, 0xD9, 0x6D)};
        ZipRecover x = salvaged(5, records);
        Zips.dueFound(x, 0, 0, 0, 0, 0);
        Zips.dueFound(x, 1, 255, 1, Zips.crc(0), 11);
        Zips.dueFound(x, 2, 0, 4, 4294967295L, 23);
        Zips.dueFound(x, 3, 7, 60, Zips.crc(Zips.filler(60)), 38);
        Zips.dueFound(x, 4, 1, 4, 0, 109);
        // What lies inside a record that was accepted is its data and nothing more.
        ZipRecover nested = salvaged(2, Zips.local(8, GOOD), Zips.local(6));
        Zips.dueFound(nested, 0, 8, 13, Zips.crc(GOOD), 0);
        Zips.dueFound(nested, 1, 6, 0, 0, 24);
    }

    private static void crcDiffers() {
        Check.sentence(EIGHT, "Otherwise p = p + 1.");
        for (int pos = 7; pos < 11; pos++) {
            for (int bit = 0; bit < 8; bit++) {
                int[] wrong = GOOD.clone();
                wrong[pos] = wrong[pos] ^ 1 << bit;
                ZipRecover x = salvaged(1, wrong, Zips.local(6));
                Zips.dueFound(x, 0, 6, 0, 0, 13);
            }
        }
        // The next record may begin in the wrong record's data, or already in its crc field.
        ZipRecover inData = salvaged(1, Zips.localHeader(8, 13, 1), GOOD);
        Zips.dueFound(inData, 0, 5, 2, Zips.crc(1, 2), 11);
        ZipRecover inCrc = salvaged(1, Zips.bytes(0x50, 0x4B, 3, 4, 1, 0, 0), GOOD);
        Zips.dueFound(inCrc, 0, 5, 2, Zips.crc(1, 2), 7);
        // A record without data has the crc 0 and no other.
        salvaged(1, Zips.localHeader(1, 0, 0));
        for (long crc : new long[] {1, 0x80000000L, 0xFFFFFFFFL}) {
            salvaged(0, Zips.localHeader(1, 0, crc));
        }
    }

    private static void centralRecord() {
        Check.sentence(EIGHT, "The scan stops if p + 13 > `length`; otherwise p = p + 13.");
        int[] signature = {0x50, 0x4B, 1, 2};
        for (int size = 4; size <= 12; size++) {
            dueGoodAlone(GOOD, signature, Zips.filler(size - 4));
            // Here the record begins one byte or more too early to be seen.
            dueGoodAlone(GOOD, signature, Zips.filler(size - 4), Zips.local(6));
        }
        dueGoodAlone(GOOD, signature, Zips.filler(9));
        ZipRecover x = salvaged(2, GOOD, signature, Zips.filler(9), Zips.local(6));
        Zips.dueFound(x, 1, 6, 0, 0, 26);
        ZipRecover later = salvaged(2, GOOD, signature, Zips.filler(10), Zips.local(6));
        Zips.dueFound(later, 1, 6, 0, 0, 27);
    }

    private static void endRecord() {
        Check.sentence(EIGHT, "The scan stops if p + 9 > `length`; otherwise p = p + 9.");
        int[] signature = {0x50, 0x4B, 5, 6};
        for (int size = 4; size <= 8; size++) {
            dueGoodAlone(GOOD, signature, Zips.filler(size - 4));
            dueGoodAlone(GOOD, signature, Zips.filler(size - 4), Zips.local(6));
        }
        dueGoodAlone(GOOD, signature, Zips.filler(5));
        ZipRecover x = salvaged(2, GOOD, signature, Zips.filler(5), Zips.local(6));
        Zips.dueFound(x, 1, 6, 0, 0, 22);
        ZipRecover later = salvaged(2, GOOD, signature, Zips.filler(6), Zips.local(6));
        Zips.dueFound(later, 1, 6, 0, 0, 23);
    }

    private static void noSignature() {
        Check.sentence(EIGHT, "**No signature at p.** p = p + 1.");
        int[][] signatures = {{0x50, 0x4B, 3, 4}, {0x50, 0x4B, 1, 2}, {0x50, 0x4B, 5, 6}};
        for (int[] signature : signatures) {
            for (int k = 0; k < 4; k++) {
                for (int step = -1; step <= 1; step += 2) {
                    int[] almost = signature.clone();
                    almost[k] = almost[k] + step;
                    ZipRecover x = salvaged(1, almost, GOOD);
                    Zips.dueFound(x, 0, 5, 2, Zips.crc(1, 2), 4);
                }
                // A beginning of a signature that the whole one follows.
                ZipRecover x = salvaged(1, Arrays.copyOf(signature, k), GOOD);
                Zips.dueFound(x, 0, 5, 2, Zips.crc(1, 2), k);
            }
        }
    }

    private static void foundListStays() {
        Check.sentence(EIGHT, "The found list so made stays in every case, including when the answer is `ERR_FULL`.");
        int[] image = Zips.join(Zips.filler(20), Zips.local(1), Zips.local(2));
        for (int capacity = 76; capacity <= 77; capacity++) {
            ZipRecover x = Zips.holding(capacity, image);
            Check.due("salvage() of 77 bytes in " + capacity, x.salvage(), capacity == 76 ? ZipRecover.ERR_FULL : 2);
            Zips.dueFound(x, 0, 1, 0, 0, 20);
            Zips.dueFound(x, 1, 2, 0, 0, 31);
            Check.due("foundInfo(2, 0)", x.foundInfo(2, 0), -1);
            String found = Zips.found(x);
            x.truncate(0);
            x.add(1);
            x.commit();
            Check.due("found", Zips.found(x), found);
        }
    }

    private static void endOfTheLastFound() {
        Check.sentence(EIGHT, "C = offset + 11 + size of the last found record, or 0 if none was found.");
        for (int size : new int[] {0, 1, 100}) {
            int[] image = Zips.join(GOOD, Zips.filler(3), Zips.local(6, Zips.filler(size)));
            ZipRecover x = salvaged(2, image, Zips.filler(30));
            Check.due("length()", x.length(), 27 + size + 26 + 9);
            Zips.dueImage("after salvage", x, image, Zips.central(5, 0, 1, 2), Zips.central(6, 16, Zips.filler(size)),
                Zips.end(2, 27 + size));
        }
        // The last found one counts, not the last listed one.
        ZipRecover order = salvaged(2, Zips.local(200), Zips.local(100), Zips.filler(5));
        Zips.dueImage("after salvage", order, Zips.local(200), Zips.local(100), Zips.central(100, 11), Zips.central(200, 0),
            Zips.end(2, 22));
        ZipRecover none = salvaged(0, Zips.filler(200));
        Zips.dueImage("after salvage", none, Zips.end(0, 0));
    }

    private static void lastOfEachName() {
        Check.sentence(EIGHT, "The new directory is, for each distinct found name, its last found record, sorted by ascending name.");
        ZipRecover x = salvaged(6, Zips.local(255, 1), Zips.local(0, 2), Zips.local(128, 3), Zips.local(255), Zips.local(127),
            Zips.local(0, 4, 5));
        Zips.dueDir(x, 0, 0, 2, Zips.crc(4, 5), 58);
        Zips.dueDir(x, 1, 127, 0, 0, 47);
        Zips.dueDir(x, 2, 128, 1, Zips.crc(3), 24);
        Zips.dueDir(x, 3, 255, 0, 0, 36);
        Check.due("dirInfo(4, 0)", x.dirInfo(4, 0), -1);
        // A later version that is damaged does not shadow the earlier one.
        ZipRecover damaged = salvaged(1, Zips.local(5, 1), Zips.localHeader(5, 0, 1));
        Zips.dueDir(damaged, 0, 5, 1, Zips.crc(1), 0);
    }

    private static void overCapacity() {
        Check.sentence(EIGHT, "If C + 13*m + 9 > capacity, the answer is `ERR_FULL` and the image and `length` are unchanged.");
        for (int capacity : new int[] {64, 65, 170, 255, 256}) {
            for (int m = 1; m <= 2; m++) {
                // The second record is of another name or of the same one: then only m differs.
                int size = capacity - 9 - 13 * m - 22;
                int[] second = Zips.local(m);
                dueFits(capacity, Zips.join(Zips.local(1, Zips.filler(size)), second));
                dueFull(capacity, Zips.join(Zips.local(1, Zips.filler(size + 1)), second));
            }
        }
        // An openable image stays openable; 33 + 39 + 9 = 81.
        int[] image = Zips.join(Zips.local(1), Zips.local(2), Zips.local(3), Zips.central(2, 11), Zips.end(1, 33));
        dueFull(64, image);
        dueFull(80, image);
        dueFits(81, image);
        ZipRecover x = Zips.holding(80, image);
        Check.due("salvage()", x.salvage(), ZipRecover.ERR_FULL);
        Zips.dueDir(x, 0, 2, 0, 0, 11);
        Check.due("dirInfo(1, 0)", x.dirInfo(1, 0), -1);
    }

    private static void dueFits(int capacity, int[] image) {
        ZipRecover x = Zips.holding(capacity, image);
        Check.due("salvage() in " + capacity, x.salvage() > 0, true);
        Check.due("length()", x.length(), capacity);
    }

    private static void dueFull(int capacity, int[] image) {
        ZipRecover x = Zips.holding(capacity, image);
        Check.due("salvage() in " + capacity, x.salvage(), ZipRecover.ERR_FULL);
        Check.due("length()", x.length(), image.length);
        Zips.dueImage("after ERR_FULL", x, image);
    }

    private static void cutAtC() {
        Check.sentence(EIGHT, "Otherwise `length` becomes C.");
        // What stood after C is gone: much longer than the new directory, as long, shorter, or nothing.
        for (int size : new int[] {200, 23, 22, 21, 1, 0}) {
            ZipRecover x = salvaged(1, GOOD, Zips.filler(size));
            Check.due("length()", x.length(), 35);
            Check.due("byteAt(35)", x.byteAt(35), -1);
        }
    }

    private static void directoryAtC() {
        Check.sentence(EIGHT, "The central records and end record are written at D = C exactly as commit writes them: offsets are "
            + "those of the found records, and the end record has count m, dirOffset C and dirSize 13*m.");
        for (int m = 1; m <= 10; m++) {
            int[] locals = new int[0];
            int[] centrals = new int[0];
            for (int k = 0; k < m; k++) {
                locals = Zips.join(locals, Zips.local(255 - k));
                centrals = Zips.join(Zips.central(255 - k, 11 * k), centrals);
            }
            ZipRecover x = salvaged(m, locals);
            Zips.dueImage("after salvage of " + m, x, locals, centrals, Zips.endOf(m, 11 * m, 13 * m));
        }
        // A salvage of what a commit has written gives the same bytes.
        ZipRecover x = Zips.busy();
        int[] image = Zips.image(x);
        Check.due("salvage()", x.salvage(), 2);
        Zips.dueImage("after salvage of a sound image", x, image);
    }

    private static void newLength() {
        Check.sentence(EIGHT, "`length` becomes C + 13*m + 9.");
        Check.due("length()", salvaged(0, Zips.bytes()).length(), 9);
        Check.due("length()", salvaged(1, Zips.local(1)).length(), 11 + 13 + 9);
        Check.due("length()", salvaged(2, Zips.local(1), Zips.local(1)).length(), 22 + 13 + 9);
        Check.due("length()", salvaged(2, Zips.local(1), Zips.local(2)).length(), 22 + 26 + 9);
        Check.due("length()", salvaged(1, Zips.local(1, Zips.filler(223))).length(), 256);
    }

    private static void answer() {
        Check.sentence(EIGHT, "On success the answer is the number of found records, counting shadowed ones.");
        for (int count = 0; count <= 21; count++) {
            int[] image = new int[0];
            for (int k = 0; k < count; k++) {
                image = Zips.join(image, Zips.local(9));
            }
            ZipRecover x = salvaged(count, image);
            Check.due("dirInfo(0, 3)", x.dirInfo(0, 3), count == 0 ? -1 : 11 * (count - 1));
            Check.due("dirInfo(1, 0)", x.dirInfo(1, 0), -1);
        }
    }

    private static void bytesBelow() {
        Check.sentence(EIGHT, "Bytes below C are not changed.");
        // Garbage, a damaged record, an old directory and an old end record before the last good record.
        int[] start = Zips.join(Zips.bytes(0, 255, 0x50), Zips.localHeader(1, 1, 77), Zips.bytes(9), Zips.central(1, 3, 9),
            Zips.end(1, 15), Zips.local(2), Zips.filler(7), GOOD);
        ZipRecover x = salvaged(2, start, Zips.filler(40));
        for (int pos = 0; pos < start.length; pos++) {
            Check.due("byteAt(" + pos + ")", x.byteAt(pos), start[pos]);
        }
        Check.due("length()", x.length(), start.length + 26 + 9);
    }

    private static void openableAfterwards() {
        Check.sentence(EIGHT, "Afterwards the image is openable and its directory is the new directory.");
        for (int length = 0; length <= 71; length++) {
            ZipRecover x = Zips.busy();
            x.truncate(length);
            int found = length < 22 ? 0 : length < 36 ? 1 : 2;
            Check.due("salvage() at " + length, x.salvage(), found);
            Check.due("isOpenable()", x.isOpenable(), true);
            Check.due("sizeOf(7)", x.sizeOf(7), found > 0 ? 2 : -1);
            Check.due("sizeOf(3)", x.sizeOf(3), found > 1 ? 3 : -1);
            Check.due("dirInfo(" + found + ", 0)", x.dirInfo(found, 0), -1);
        }
    }

    private static void nothingFound() {
        Check.sentence(EIGHT, "When nothing is found, the result is an image of length 9 holding only an end record with count 0, "
            + "dirOffset 0 and dirSize 0.");
        int[][] images = {
            {}, {7}, Zips.filler(8), Zips.filler(9), Zips.filler(10), Zips.filler(256), Zips.end(0, 0), Zips.end(255, 65535),
            Zips.central(1, 0), Zips.localHeader(1, 65535, 0), Zips.localHeader(1, 0, 1), Arrays.copyOf(Zips.local(1), 10)};
        for (int[] image : images) {
            ZipRecover x = salvaged(0, image);
            Check.due("length()", x.length(), 9);
            Zips.dueImage("after salvage of nothing", x, Zips.bytes(0x50, 0x4B, 5, 6, 0, 0, 0, 0, 0));
            Check.due("dirInfo(0, 0)", x.dirInfo(0, 0), -1);
        }
    }

    private static void pendingAndCapacityStay() {
        Check.sentence(EIGHT, "The pending list is untouched in every case, and the capacity does not change.");
        int[][] images = {Zips.bytes(), GOOD, Zips.local(1, Zips.filler(31)), Zips.local(1, Zips.filler(32))};
        for (int[] image : images) {
            ZipRecover x = Zips.holding(64, image);
            for (int k = 0; k < 8; k++) {
                Zips.stage(x, 5, Zips.filler(k == 7 ? 15 : 16));
            }
            String pending = Zips.pending(x);
            Check.due("salvage()", x.salvage(), image.length == 43 ? ZipRecover.ERR_FULL : image.length == 0 ? 0 : 1);
            Check.due("pending", Zips.pending(x), pending);
            Check.due("the 128th put", x.put(3), true);
            Check.due("the 129th put", x.put(3), false);
            Check.due("a ninth add", x.add(3), false);
            Zips.dueCapacity(x, 64);
        }
        ZipRecover large = Zips.busy();
        large.salvage();
        Check.due("commit()", large.commit(), 71 + 12 + 39 + 9);
        Check.due("dataAt(9, 0)", large.dataAt(9, 0), 42);
        Zips.dueCapacity(large, 256);
    }
}
