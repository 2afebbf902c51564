public final class ZipRecover {
    public static final int MIN_CAPACITY = 64;
    public static final int MAX_CAPACITY = 256;
    public static final int LOCAL_HEADER = 11;
    public static final int CENTRAL_SIZE = 13;
    public static final int END_SIZE = 9;
    public static final int MAX_PENDING = 8;
    public static final int PENDING_BYTES = 128;
    public static final int ERR_EMPTY = -1;
    public static final int ERR_DAMAGED = -2;
    public static final int ERR_FULL = -3;
    public static final int INFO_NAME = 0;
    public static final int INFO_SIZE = 1;
    public static final int INFO_CRC = 2;
    public static final int INFO_OFFSET = 3;

    // The signatures as the u32 values that their four bytes read as.
    private static final long LOCAL_SIGNATURE = 0x04034B50L;
    private static final long CENTRAL_SIGNATURE = 0x02014B50L;
    private static final long END_SIGNATURE = 0x06054B50L;
    private static final int SIGNATURE_SIZE = 4;

    // Local and central records share the places of name, size and crc.
    private static final int NAME_AT = 4;
    private static final int SIZE_AT = 5;
    private static final int CRC_AT = 7;
    private static final int OFFSET_AT = 11;
    private static final int COUNT_AT = 4;
    private static final int DIR_OFFSET_AT = 5;
    private static final int DIR_SIZE_AT = 7;

    private static final int NAMES = 256;
    // Found records do not overlap, and 24 of them would need 264 bytes.
    private static final int MAX_FOUND = 23;
    private static final int NONE = -1;

    private final int capacity;
    private int length;
    private final int[] image = new int[MAX_CAPACITY];

    // The data of all entries lies end to end: only the last entry ever grows.
    private int pendingCount;
    private int pendingTotal;
    private final int[] pendingName = new int[MAX_PENDING];
    private final int[] pendingStart = new int[MAX_PENDING];
    private final int[] pendingSize = new int[MAX_PENDING];
    private final int[] pendingData = new int[PENDING_BYTES];

    // Copies, not places in the image: a later poke must not change what was found.
    private int foundCount;
    private final int[] foundName = new int[MAX_FOUND];
    private final int[] foundSize = new int[MAX_FOUND];
    private final long[] foundCrc = new long[MAX_FOUND];
    private final int[] foundOffset = new int[MAX_FOUND];

    // The directory being made: each name's local record, or NONE. Held by name,
    // so that a later version replaces an earlier one and the order is ascending.
    private final int[] newOffset = new int[NAMES];

    public ZipRecover(int capacity) {
        if (capacity < MIN_CAPACITY) {
            this.capacity = MIN_CAPACITY;
        } else if (capacity > MAX_CAPACITY) {
            this.capacity = MAX_CAPACITY;
        } else {
            this.capacity = capacity;
        }
        startNewDirectory();
        appendNewDirectory();
    }

    public boolean add(int name) {
        if (!isByte(name) || pendingCount >= MAX_PENDING) {
            return false;
        }
        pendingName[pendingCount] = name;
        pendingStart[pendingCount] = pendingTotal;
        pendingSize[pendingCount] = 0;
        pendingCount++;
        return true;
    }

    public boolean put(int b) {
        if (pendingCount == 0 || !isByte(b) || pendingTotal >= PENDING_BYTES) {
            return false;
        }
        pendingData[pendingTotal] = b;
        pendingTotal++;
        pendingSize[pendingCount - 1]++;
        return true;
    }

    public void discard() {
        pendingCount = 0;
        pendingTotal = 0;
    }

    public int commit() {
        if (pendingCount == 0) {
            return ERR_EMPTY;
        }
        if (!isOpenable()) {
            return ERR_DAMAGED;
        }
        startNewDirectory();
        listCurrent();
        int directoryStart = listPending();
        if (endOfNewDirectory(directoryStart) > capacity) {
            return ERR_FULL;
        }
        for (int k = 0; k < pendingCount; k++) {
            appendLocal(k);
        }
        appendNewDirectory();
        discard();
        return length;
    }

    public boolean truncate(int n) {
        if (n < 0 || n > length) {
            return false;
        }
        length = n;
        return true;
    }

    public boolean poke(int pos, int v) {
        if (pos < 0 || pos >= length || !isByte(v)) {
            return false;
        }
        image[pos] = v;
        return true;
    }

    public int salvage() {
        scan();
        int directoryStart = endOfLastFound();
        startNewDirectory();
        for (int i = 0; i < foundCount; i++) {
            newOffset[foundName[i]] = foundOffset[i];
        }
        if (endOfNewDirectory(directoryStart) > capacity) {
            return ERR_FULL;
        }
        length = directoryStart;
        appendNewDirectory();
        return foundCount;
    }

    public int length() {
        return length;
    }

    public int byteAt(int pos) {
        if (pos < 0 || pos >= length) {
            return -1;
        }
        return image[pos];
    }

    public boolean isOpenable() {
        int end = length - END_SIZE;
        if (u32(end) != END_SIGNATURE) {
            return false;
        }
        int count = byteAt(end + COUNT_AT);
        int directory = u16(end + DIR_OFFSET_AT);
        int directorySize = u16(end + DIR_SIZE_AT);
        if (directorySize != CENTRAL_SIZE * count || directory + directorySize != end) {
            return false;
        }
        int nameBefore = NONE;
        for (int i = 0; i < count; i++) {
            int central = directory + CENTRAL_SIZE * i;
            int name = byteAt(central + NAME_AT);
            if (name <= nameBefore || !isSoundCentral(central, directory)) {
                return false;
            }
            nameBefore = name;
        }
        return true;
    }

    public long dirInfo(int i, int what) {
        if (!isOpenable() || i < 0 || i >= directoryCount()) {
            return -1;
        }
        int central = centralAt(i);
        int name = byteAt(central + NAME_AT);
        int size = u16(central + SIZE_AT);
        long crc = u32(central + CRC_AT);
        int offset = u16(central + OFFSET_AT);
        return choose(what, name, size, crc, offset);
    }

    public int sizeOf(int name) {
        int central = centralOf(name);
        if (central == NONE) {
            return -1;
        }
        return u16(central + SIZE_AT);
    }

    public int dataAt(int name, int j) {
        int central = centralOf(name);
        if (central == NONE) {
            return -1;
        }
        int size = u16(central + SIZE_AT);
        if (j < 0 || j >= size) {
            return -1;
        }
        int offset = u16(central + OFFSET_AT);
        return byteAt(offset + LOCAL_HEADER + j);
    }

    public long pendingInfo(int k, int what) {
        if (k < 0 || k >= pendingCount) {
            return -1;
        }
        long crc = crcOf(pendingData, pendingStart[k], pendingSize[k]);
        return choose(what, pendingName[k], pendingSize[k], crc, NONE);
    }

    public long foundInfo(int i, int what) {
        if (i < 0 || i >= foundCount) {
            return -1;
        }
        return choose(what, foundName[i], foundSize[i], foundCrc[i], foundOffset[i]);
    }

    private static boolean isByte(int v) {
        return v >= 0 && v <= 255;
    }

    private static long choose(int what, int name, int size, long crc, int offset) {
        switch (what) {
            case INFO_NAME:
                return name;
            case INFO_SIZE:
                return size;
            case INFO_CRC:
                return crc;
            case INFO_OFFSET:
                return offset;
            default:
                return -1;
        }
    }

    private static long crcOf(int[] bytes, int start, int size) {
        long c = 0xFFFFFFFFL;
        for (int i = 0; i < size; i++) {
            c = c ^ bytes[start + i];
            for (int bit = 0; bit < 8; bit++) {
                c = (c & 1L) == 1L ? (c >>> 1) ^ 0xEDB88320L : c >>> 1;
            }
        }
        return c ^ 0xFFFFFFFFL;
    }

    // u16 and u32 answer -1, which no field holds, for a field that is not whole
    // in the image: what lies past the end must never be read.
    private int u16(int pos) {
        if (pos < 0 || pos + 2 > length) {
            return -1;
        }
        return image[pos] + (image[pos + 1] << 8);
    }

    private long u32(int pos) {
        if (pos < 0 || pos + 4 > length) {
            return -1;
        }
        int low = image[pos] + (image[pos + 1] << 8);
        long high = image[pos + 2] + (image[pos + 3] << 8);
        return low + (high << 16);
    }

    private void append(long value, int width) {
        for (int k = 0; k < width && length < capacity; k++) {
            image[length] = (int) (value >>> (8 * k)) & 255;
            length++;
        }
    }

    private boolean isSoundCentral(int central, int directory) {
        if (u32(central) != CENTRAL_SIGNATURE) {
            return false;
        }
        int local = u16(central + OFFSET_AT);
        int size = u16(central + SIZE_AT);
        if (local + LOCAL_HEADER + size > directory) {
            return false;
        }
        return u32(local) == LOCAL_SIGNATURE
            && byteAt(local + NAME_AT) == byteAt(central + NAME_AT)
            && u16(local + SIZE_AT) == size
            && u32(local + CRC_AT) == u32(central + CRC_AT);
    }

    // directoryCount and centralAt mean something only while the image is openable.
    private int directoryCount() {
        return byteAt(length - END_SIZE + COUNT_AT);
    }

    private int centralAt(int i) {
        int directory = u16(length - END_SIZE + DIR_OFFSET_AT);
        return directory + CENTRAL_SIZE * i;
    }

    private int centralOf(int name) {
        if (!isOpenable()) {
            return NONE;
        }
        int count = directoryCount();
        for (int i = 0; i < count; i++) {
            int central = centralAt(i);
            if (byteAt(central + NAME_AT) == name) {
                return central;
            }
        }
        return NONE;
    }

    private void startNewDirectory() {
        for (int name = 0; name < NAMES; name++) {
            newOffset[name] = NONE;
        }
    }

    private void listCurrent() {
        int count = directoryCount();
        for (int i = 0; i < count; i++) {
            int central = centralAt(i);
            int name = byteAt(central + NAME_AT);
            newOffset[name] = u16(central + OFFSET_AT);
        }
    }

    // Answers where the local records of the pending entries will end.
    private int listPending() {
        int offset = length;
        for (int k = 0; k < pendingCount; k++) {
            newOffset[pendingName[k]] = offset;
            offset = offset + LOCAL_HEADER + pendingSize[k];
        }
        return offset;
    }

    private int newCount() {
        int count = 0;
        for (int name = 0; name < NAMES; name++) {
            if (newOffset[name] != NONE) {
                count++;
            }
        }
        return count;
    }

    private int endOfNewDirectory(int directoryStart) {
        return directoryStart + CENTRAL_SIZE * newCount() + END_SIZE;
    }

    private void appendLocal(int k) {
        long crc = crcOf(pendingData, pendingStart[k], pendingSize[k]);
        append(LOCAL_SIGNATURE, SIGNATURE_SIZE);
        append(pendingName[k], 1);
        append(pendingSize[k], 2);
        append(crc, 4);
        for (int j = 0; j < pendingSize[k]; j++) {
            append(pendingData[pendingStart[k] + j], 1);
        }
    }

    // Name, size and crc come from the local record, which stands in the image already.
    private void appendCentral(int local) {
        int name = byteAt(local + NAME_AT);
        int size = u16(local + SIZE_AT);
        long crc = u32(local + CRC_AT);
        append(CENTRAL_SIGNATURE, SIGNATURE_SIZE);
        append(name, 1);
        append(size, 2);
        append(crc, 4);
        append(local, 2);
    }

    private void appendNewDirectory() {
        int directory = length;
        int count = newCount();
        for (int name = 0; name < NAMES; name++) {
            if (newOffset[name] != NONE) {
                appendCentral(newOffset[name]);
            }
        }
        append(END_SIGNATURE, SIGNATURE_SIZE);
        append(count, 1);
        append(directory, 2);
        append(CENTRAL_SIZE * count, 2);
    }

    private void scan() {
        foundCount = 0;
        int next = 0;
        for (int p = 0; p + SIGNATURE_SIZE <= length; p++) {
            if (p < next) {
                continue;
            }
            int width = widthAt(p);
            if (p + width > length) {
                break;
            }
            // A local record with a wrong crc is garbage, and another may begin inside it.
            if (u32(p) != LOCAL_SIGNATURE || keepIfSound(p)) {
                next = p + width;
            }
        }
    }

    // The length that the record at p claims; one byte where no record begins.
    private int widthAt(int p) {
        long signature = u32(p);
        if (signature == CENTRAL_SIGNATURE) {
            return CENTRAL_SIZE;
        }
        if (signature == END_SIGNATURE) {
            return END_SIZE;
        }
        if (signature != LOCAL_SIGNATURE) {
            return 1;
        }
        // A header that is cut off has no size field to trust; it runs past the end by itself.
        if (p + LOCAL_HEADER > length) {
            return LOCAL_HEADER;
        }
        return LOCAL_HEADER + u16(p + SIZE_AT);
    }

    private boolean keepIfSound(int local) {
        int size = u16(local + SIZE_AT);
        long crc = u32(local + CRC_AT);
        if (foundCount >= MAX_FOUND || crcOf(image, local + LOCAL_HEADER, size) != crc) {
            return false;
        }
        foundName[foundCount] = byteAt(local + NAME_AT);
        foundSize[foundCount] = size;
        foundCrc[foundCount] = crc;
        foundOffset[foundCount] = local;
        foundCount++;
        return true;
    }

    private int endOfLastFound() {
        if (foundCount == 0) {
            return 0;
        }
        int last = foundCount - 1;
        return foundOffset[last] + LOCAL_HEADER + foundSize[last];
    }
}
