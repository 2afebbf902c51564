import java.util.Arrays;
import java.util.function.BooleanSupplier;
import java.util.function.LongSupplier;
import java.util.zip.CRC32;

/** Builds images and objects for the tests, and reads objects through their public face. */
final class Zips {
    static final int[] NOT_BYTES = {-1, 256, 257, -256, 65536, Integer.MIN_VALUE, Integer.MAX_VALUE};
    static final int[] NOT_FIELDS = {-1, 4, 5, 256, Integer.MIN_VALUE, Integer.MAX_VALUE};

    private Zips() {
    }

    static int[] bytes(int... values) {
        return values;
    }

    static int[] join(int[]... parts) {
        int[] all = new int[0];
        for (int[] part : parts) {
            int start = all.length;
            all = Arrays.copyOf(all, start + part.length);
            System.arraycopy(part, 0, all, start, part.length);
        }
        return all;
    }

    static long crc(int... data) {
        CRC32 crc = new CRC32();
        for (int b : data) {
            crc.update(b);
        }
        return crc.getValue();
    }

    private static int part(long value, int k) {
        return (int) (value >> (8 * k)) & 255;
    }

    private static int[] nameSizeCrc(int name, int size, long crc) {
        return bytes(name, part(size, 0), part(size, 1), part(crc, 0), part(crc, 1), part(crc, 2), part(crc, 3));
    }

    static int[] localHeader(int name, int size, long crc) {
        return join(bytes(0x50, 0x4B, 3, 4), nameSizeCrc(name, size, crc));
    }

    static int[] local(int name, int... data) {
        return join(localHeader(name, data.length, crc(data)), data);
    }

    static int[] centralOf(int name, int size, long crc, int offset) {
        return join(bytes(0x50, 0x4B, 1, 2), nameSizeCrc(name, size, crc), bytes(part(offset, 0), part(offset, 1)));
    }

    static int[] central(int name, int offset, int... data) {
        return centralOf(name, data.length, crc(data), offset);
    }

    static int[] endOf(int count, int dirOffset, int dirSize) {
        return bytes(0x50, 0x4B, 5, 6, count, part(dirOffset, 0), part(dirOffset, 1), part(dirSize, 0), part(dirSize, 1));
    }

    static int[] end(int count, int dirOffset) {
        return endOf(count, dirOffset, 13 * count);
    }

    /** An openable image whose local headers overlap: the crc field of each is the signature of the next. */
    static int[] crowded(int count) {
        int[] locals = new int[0];
        int[] centrals = new int[0];
        for (int i = 0; i < count; i++) {
            locals = join(locals, bytes(0x50, 0x4B, 3, 4, i, 0, 0));
            centrals = join(centrals, centralOf(i, 0, 0x04034B50L, 7 * i));
        }
        locals = join(locals, bytes(0x50, 0x4B, 3, 4));
        return join(locals, centrals, end(count, locals.length));
    }

    /** size bytes that begin no record. */
    static int[] filler(int size) {
        int[] data = new int[size];
        Arrays.fill(data, 0xA5);
        return data;
    }

    static void stage(ZipRecover x, int name, int... data) {
        Check.due("add(" + name + ")", x.add(name), true);
        for (int b : data) {
            Check.due("put(" + b + ")", x.put(b), true);
        }
    }

    /** What a commit answers that would bring a new image to this length, which is 42 or more. */
    static int fillTo(ZipRecover x, int length) {
        int size = length - 42;
        if (length > 170) {
            stage(x, 1, filler(60));
            Check.due("commit() of the first filler", x.commit(), 102);
            size = length - 135;
        }
        stage(x, 1, filler(size));
        return x.commit();
    }

    private static void empty(ZipRecover x) {
        x.discard();
        x.truncate(0);
        Check.due("salvage() of nothing", x.salvage(), 0);
    }

    /** Uses the object up: of all lengths, it reaches this one and not the next. */
    static void dueCapacity(ZipRecover x, int capacity) {
        empty(x);
        Check.due("commit() to one byte over the capacity " + capacity, fillTo(x, capacity + 1), ZipRecover.ERR_FULL);
        empty(x);
        Check.due("commit() to the capacity " + capacity, fillTo(x, capacity), capacity);
    }

    /** The call answers so, and changes nothing that the queries show. */
    static void dueUnchanged(String call, ZipRecover x, BooleanSupplier run, boolean want) {
        String before = state(x);
        Check.due(call, run.getAsBoolean(), want);
        Check.due("the state after " + call, state(x), before);
    }

    static void dueUnchanged(String call, ZipRecover x, LongSupplier run, long want) {
        String before = state(x);
        Check.due(call, run.getAsLong(), want);
        Check.due("the state after " + call, state(x), before);
    }

    /** A new object whose image has been made to be this one; nothing is pending or found. */
    static ZipRecover holding(int capacity, int[] image) {
        ZipRecover x = new ZipRecover(capacity);
        Check.due("commit() of filler", fillTo(x, capacity), capacity);
        Check.due("truncate", x.truncate(image.length), true);
        for (int pos = 0; pos < image.length; pos++) {
            Check.due("poke", x.poke(pos, image[pos]), true);
        }
        return x;
    }

    static ZipRecover holding(int[] image) {
        return holding(256, image);
    }

    static int[] image(ZipRecover x) {
        int[] image = new int[x.length()];
        for (int pos = 0; pos < image.length; pos++) {
            image[pos] = x.byteAt(pos);
        }
        return image;
    }

    static void dueImage(String when, ZipRecover x, int[]... parts) {
        Check.due("the image " + when, Arrays.toString(image(x)), Arrays.toString(join(parts)));
    }

    static String pending(ZipRecover x) {
        StringBuilder text = new StringBuilder("pending");
        for (int k = 0; k < 9; k++) {
            text.append(' ').append(x.pendingInfo(k, 0)).append('/').append(x.pendingInfo(k, 1));
            text.append('/').append(x.pendingInfo(k, 2));
        }
        return text.toString();
    }

    static String found(ZipRecover x) {
        StringBuilder text = new StringBuilder("found");
        for (int i = 0; i < 24; i++) {
            text.append(' ').append(x.foundInfo(i, 0)).append('/').append(x.foundInfo(i, 1));
            text.append('/').append(x.foundInfo(i, 2)).append('/').append(x.foundInfo(i, 3));
        }
        return text.toString();
    }

    static String directory(ZipRecover x) {
        StringBuilder text = new StringBuilder(x.isOpenable() ? "open" : "shut");
        for (int i = 0; i < 20; i++) {
            text.append(' ').append(x.dirInfo(i, 0)).append('/').append(x.dirInfo(i, 1));
            text.append('/').append(x.dirInfo(i, 2)).append('/').append(x.dirInfo(i, 3));
        }
        return text.toString();
    }

    /** All that the queries show, but for the data bytes, which are part of the image. */
    static String state(ZipRecover x) {
        return x.length() + " " + Arrays.toString(image(x)) + "\n" + directory(x) + "\n" + pending(x) + "\n" + found(x);
    }

    static void dueFound(ZipRecover x, int i, int name, int size, long crc, int offset) {
        Check.due("foundInfo(" + i + ", INFO_NAME)", x.foundInfo(i, ZipRecover.INFO_NAME), name);
        Check.due("foundInfo(" + i + ", INFO_SIZE)", x.foundInfo(i, ZipRecover.INFO_SIZE), size);
        Check.due("foundInfo(" + i + ", INFO_CRC)", x.foundInfo(i, ZipRecover.INFO_CRC), crc);
        Check.due("foundInfo(" + i + ", INFO_OFFSET)", x.foundInfo(i, ZipRecover.INFO_OFFSET), offset);
    }

    static void dueDir(ZipRecover x, int i, int name, int size, long crc, int offset) {
        Check.due("dirInfo(" + i + ", INFO_NAME)", x.dirInfo(i, ZipRecover.INFO_NAME), name);
        Check.due("dirInfo(" + i + ", INFO_SIZE)", x.dirInfo(i, ZipRecover.INFO_SIZE), size);
        Check.due("dirInfo(" + i + ", INFO_CRC)", x.dirInfo(i, ZipRecover.INFO_CRC), crc);
        Check.due("dirInfo(" + i + ", INFO_OFFSET)", x.dirInfo(i, ZipRecover.INFO_OFFSET), offset);
    }

    /** An object with something in every part: two entries committed, one found list, one pending entry. */
    static ZipRecover busy() {
        ZipRecover x = new ZipRecover(256);
        stage(x, 7, 104, 105);
        stage(x, 3, 1, 2, 3);
        Check.due("commit()", x.commit(), 71);
        Check.due("salvage()", x.salvage(), 2);
        stage(x, 9, 42);
        return x;
    }
}
