import java.util.ArrayList;
import java.util.List;
import java.util.TreeMap;

/** The document told once more, over the Java library's lists, to be held against the class. */
final class Model {
    /** A record as the info queries show it. */
    record Entry(int name, int size, long crc, int offset) {
        long info(int what) {
            return switch (what) {
                case 0 -> name;
                case 1 -> size;
                case 2 -> crc;
                case 3 -> offset;
                default -> -1;
            };
        }
    }

    /** A pending entry. */
    record Pending(int name, List<Integer> data) {
    }

    private final int capacity;
    private List<Integer> image = new ArrayList<>();
    private List<Pending> pending = new ArrayList<>();
    private List<Entry> found = new ArrayList<>();

    Model(int capacity) {
        this.capacity = Math.max(64, Math.min(256, capacity));
        write(Zips.end(0, 0));
    }

    private void write(int[] bytes) {
        for (int b : bytes) {
            image.add(b);
        }
    }

    private static int[] array(List<Integer> list) {
        return list.stream().mapToInt(Integer::intValue).toArray();
    }

    boolean add(int name) {
        if (name < 0 || name > 255 || pending.size() == 8) {
            return false;
        }
        return pending.add(new Pending(name, new ArrayList<>()));
    }

    boolean put(int b) {
        int total = pending.stream().mapToInt(entry -> entry.data().size()).sum();
        if (pending.isEmpty() || b < 0 || b > 255 || total == 128) {
            return false;
        }
        return pending.get(pending.size() - 1).data().add(b);
    }

    void discard() {
        pending = new ArrayList<>();
    }

    int commit() {
        if (pending.isEmpty()) {
            return -1;
        }
        List<Entry> old = directory();
        if (old == null) {
            return -2;
        }
        TreeMap<Integer, Entry> next = new TreeMap<>();
        for (Entry entry : old) {
            next.put(entry.name(), entry);
        }
        int place = image.size();
        for (Pending entry : pending) {
            int[] data = array(entry.data());
            next.put(entry.name(), new Entry(entry.name(), data.length, Zips.crc(data), place));
            place += 11 + data.length;
        }
        if (place + 13 * next.size() + 9 > capacity) {
            return -3;
        }
        for (Pending entry : pending) {
            write(Zips.local(entry.name(), array(entry.data())));
        }
        writeDirectory(next);
        discard();
        return image.size();
    }

    private void writeDirectory(TreeMap<Integer, Entry> next) {
        int start = image.size();
        for (Entry entry : next.values()) {
            write(Zips.centralOf(entry.name(), entry.size(), entry.crc(), entry.offset()));
        }
        write(Zips.end(next.size(), start));
    }

    boolean truncate(int n) {
        if (n < 0 || n > image.size()) {
            return false;
        }
        image = new ArrayList<>(image.subList(0, n));
        return true;
    }

    boolean poke(int pos, int v) {
        if (pos < 0 || pos >= image.size() || v < 0 || v > 255) {
            return false;
        }
        image.set(pos, v);
        return true;
    }

    int salvage() {
        scan();
        TreeMap<Integer, Entry> next = new TreeMap<>();
        int cut = 0;
        for (Entry entry : found) {
            next.put(entry.name(), entry);
            cut = entry.offset() + 11 + entry.size();
        }
        if (cut + 13 * next.size() + 9 > capacity) {
            return -3;
        }
        truncate(cut);
        writeDirectory(next);
        return found.size();
    }

    private void scan() {
        found = new ArrayList<>();
        int p = 0;
        int length = image.size();
        while (p + 4 <= length) {
            if (begins(p, 3, 4)) {
                if (p + 11 > length || p + 11 + number(p + 5, 2) > length) {
                    return;
                }
                int size = (int) number(p + 5, 2);
                long crc = number(p + 7, 4);
                if (Zips.crc(array(image.subList(p + 11, p + 11 + size))) == crc) {
                    found.add(new Entry(image.get(p + 4), size, crc, p));
                    p += 11 + size;
                } else {
                    p += 1;
                }
            } else if (begins(p, 1, 2)) {
                if (p + 13 > length) {
                    return;
                }
                p += 13;
            } else if (begins(p, 5, 6)) {
                if (p + 9 > length) {
                    return;
                }
                p += 9;
            } else {
                p += 1;
            }
        }
    }

    private boolean begins(int p, int third, int fourth) {
        return image.subList(p, p + 4).equals(List.of(0x50, 0x4B, third, fourth));
    }

    private long number(int p, int width) {
        long value = 0;
        for (int k = 0; k < width; k++) {
            value |= (long) image.get(p + k) << (8 * k);
        }
        return value;
    }

    /** The directory, or null if the image is not openable. */
    private List<Entry> directory() {
        int end = image.size() - 9;
        if (end < 0 || !begins(end, 5, 6)) {
            return null;
        }
        int count = image.get(end + 4);
        long start = number(end + 5, 2);
        long size = number(end + 7, 2);
        if (size != 13L * count || start + size != end) {
            return null;
        }
        List<Entry> all = new ArrayList<>();
        for (int i = 0; i < count; i++) {
            int at = (int) start + 13 * i;
            Entry entry = new Entry(image.get(at + 4), (int) number(at + 5, 2), number(at + 7, 4), (int) number(at + 11, 2));
            int local = entry.offset();
            if (!begins(at, 1, 2) || local + 11 + entry.size() > start || !begins(local, 3, 4)) {
                return null;
            }
            if (!image.subList(at + 4, at + 11).equals(image.subList(local + 4, local + 11))) {
                return null;
            }
            if (i > 0 && all.get(i - 1).name() >= entry.name()) {
                return null;
            }
            all.add(entry);
        }
        return all;
    }

    int length() {
        return image.size();
    }

    int byteAt(int pos) {
        return pos < 0 || pos >= image.size() ? -1 : image.get(pos);
    }

    boolean isOpenable() {
        return directory() != null;
    }

    long dirInfo(int i, int what) {
        List<Entry> all = directory();
        return all == null || i < 0 || i >= all.size() ? -1 : all.get(i).info(what);
    }

    private Entry named(int name) {
        List<Entry> all = directory();
        if (all != null) {
            for (Entry entry : all) {
                if (entry.name() == name) {
                    return entry;
                }
            }
        }
        return null;
    }

    int sizeOf(int name) {
        Entry entry = named(name);
        return entry == null ? -1 : entry.size();
    }

    int dataAt(int name, int j) {
        Entry entry = named(name);
        return entry == null || j < 0 || j >= entry.size() ? -1 : image.get(entry.offset() + 11 + j);
    }

    long pendingInfo(int k, int what) {
        if (k < 0 || k >= pending.size()) {
            return -1;
        }
        int[] data = array(pending.get(k).data());
        return new Entry(pending.get(k).name(), data.length, Zips.crc(data), -1).info(what);
    }

    long foundInfo(int i, int what) {
        return i < 0 || i >= found.size() ? -1 : found.get(i).info(what);
    }
}
