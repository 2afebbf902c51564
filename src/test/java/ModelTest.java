import java.util.TreeMap;

/** Long runs of mixed calls, held against the model call by call. The runs are the same every time. */
final class ModelTest {
    private static final int RUNS = 1000;
    private static final int CALLS = 120;
    private static final int[] NAMES = {0, 1, 2, 3, 127, 128, 254, 255};
    private static final int[] STRANGE = {-1, 256, 255, 0, 128, Integer.MIN_VALUE, Integer.MAX_VALUE};

    private final TreeMap<String, Integer> seen = new TreeMap<>();
    private long seed = 20261115;
    private ZipRecover x;
    private Model model;
    private String run;

    public static void main(String[] args) {
        ModelTest test = new ModelTest();
        for (int run = 0; run < RUNS && Check.wrong() < 20; run++) {
            test.run(run);
        }
        test.dueSeen();
        Check.end();
    }

    private int pick(int bound) {
        seed = seed * 6364136223846793005L + 1442695040888963407L;
        return (int) ((seed >>> 33) % bound);
    }

    private int pick(int[] values) {
        return values[pick(values.length)];
    }

    private void run(int number) {
        int capacity = pick(4) == 0 ? 50 + pick(250) : pick(3) == 0 ? 64 + pick(40) : 256;
        x = new ZipRecover(capacity);
        model = new Model(capacity);
        run = "run " + number + ", capacity " + capacity + ": ";
        compareAll();
        for (int call = 0; call < CALLS && Check.wrong() < 20; call++) {
            step();
            compareAll();
        }
    }

    private void step() {
        int kind = pick(100);
        if (kind < 25) {
            add(pick(20) == 0 ? pick(STRANGE) : pick(NAMES));
            data();
        } else if (kind < 30) {
            data();
        } else if (kind < 33) {
            x.discard();
            model.discard();
        } else if (kind < 58) {
            due("commit", x.commit(), model.commit());
        } else if (kind < 66) {
            int n = pick(3) == 0 ? pick(STRANGE) : model.length() - pick(30);
            due("truncate", x.truncate(n) ? 1 : 0, model.truncate(n) ? 1 : 0);
        } else if (kind < 84) {
            damage();
        } else {
            due("salvage", x.salvage(), model.salvage());
        }
    }

    private void add(int name) {
        due("add", x.add(name) ? 1 : 0, model.add(name) ? 1 : 0);
    }

    private void put(int b) {
        due("put", x.put(b) ? 1 : 0, model.put(b) ? 1 : 0);
    }

    private void putAll(int[] bytes) {
        for (int b : bytes) {
            put(b);
        }
    }

    /** Data that is short, long, or itself made of records, so that a salvage can meet them. */
    private void data() {
        int kind = pick(12);
        if (kind < 6) {
            for (int n = pick(6); n > 0; n--) {
                put(pick(256));
            }
        } else if (kind < 9) {
            putAll(someRecord());
        } else if (kind == 9) {
            for (int n = pick(130); n > 0; n--) {
                put(pick(256));
            }
        } else if (kind == 10) {
            put(pick(STRANGE));
        }
    }

    private int[] someRecord() {
        int name = pick(NAMES);
        switch (pick(7)) {
            case 0:
                return Zips.local(name);
            case 1:
                return Zips.local(name, pick(256), pick(256));
            case 2:
                return Zips.localHeader(name, pick(40), pick(3));
            case 3:
                return Zips.central(name, pick(64));
            case 4:
                return Zips.end(pick(3), pick(64));
            case 5:
                return Zips.join(Zips.local(name), Zips.local(pick(NAMES), 5), Zips.local(pick(NAMES)));
            default:
                return Zips.bytes(0x50, 0x4B, 1 + 2 * pick(3), 2 * (1 + pick(3)));
        }
    }

    private void poke(int pos, int v) {
        due("poke", x.poke(pos, v) ? 1 : 0, model.poke(pos, v) ? 1 : 0);
    }

    private void damage() {
        int length = model.length();
        int kind = pick(10);
        int pos = length == 0 ? 0 : pick(length);
        if (kind < 4) {
            poke(pos, model.byteAt(pos) ^ (1 << pick(8)));
        } else if (kind < 6) {
            int[] record = someRecord();
            for (int k = 0; k < record.length; k++) {
                poke(pos + k, record[k]);
            }
        } else if (kind == 6) {
            poke(pick(STRANGE), pick(256));
        } else if (kind == 7) {
            poke(pos, pick(STRANGE));
        } else if (kind == 8) {
            poke(length - 1 - pick(40), pick(256));
        } else {
            plantDirectory();
        }
    }

    /** Writes a directory over the tail, mostly one that the image bears out, with other places and orders. */
    private void plantDirectory() {
        int count = pick(4);
        int start = model.length() - 9 - 13 * count;
        int local = pick(12) - 1;
        for (int i = 0; i < count; i++) {
            local = nextLocal(local + 1);
            int[] record = Zips.central(pick(NAMES), local);
            for (int k = 4; k < 11; k++) {
                record[k] = Math.max(0, model.byteAt(local + k));
            }
            for (int k = 0; k < 13; k++) {
                poke(start + 13 * i + k, record[k]);
            }
        }
        int[] end = Zips.end(count, Math.max(0, start));
        for (int k = 0; k < 9; k++) {
            poke(model.length() - 9 + k, end[k]);
        }
    }

    private int nextLocal(int from) {
        for (int p = from; p < model.length(); p++) {
            if (model.byteAt(p) == 0x50 && model.byteAt(p + 1) == 0x4B && model.byteAt(p + 2) == 3) {
                return p;
            }
        }
        return pick(64);
    }

    private void due(String call, long got, long want) {
        Check.due(run + call, got, want);
        seen.merge(call + " " + (want > 1 ? "n" : want), 1, Integer::sum);
    }

    private void compareAll() {
        Check.due(run + "length", x.length(), model.length());
        Check.due(run + "isOpenable", x.isOpenable(), model.isOpenable());
        seen.merge("isOpenable " + model.isOpenable(), 1, Integer::sum);
        for (int pos = -1; pos <= model.length(); pos++) {
            Check.due(run + "byteAt", x.byteAt(pos), model.byteAt(pos));
        }
        for (int what = -1; what < 5; what++) {
            for (int i = -1; i < 24; i++) {
                Check.due(run + "foundInfo", x.foundInfo(i, what), model.foundInfo(i, what));
            }
            for (int i = -1; i < 9; i++) {
                Check.due(run + "pendingInfo", x.pendingInfo(i, what), model.pendingInfo(i, what));
                Check.due(run + "dirInfo", x.dirInfo(i, what), model.dirInfo(i, what));
            }
        }
        for (int name : NAMES) {
            int size = model.sizeOf(name);
            Check.due(run + "sizeOf", x.sizeOf(name), size);
            for (int j = -1; j <= Math.max(0, size); j++) {
                Check.due(run + "dataAt", x.dataAt(name, j), model.dataAt(name, j));
            }
        }
    }

    /** Runs that no longer meet one of these answers would test less than they seem to. */
    private void dueSeen() {
        String[] answers = {
            "add 0", "add 1", "put 0", "put 1", "commit -1", "commit -2", "commit -3", "commit n", "truncate 0", "truncate 1",
            "poke 0", "poke 1", "salvage -3", "salvage 0", "salvage 1", "salvage n", "isOpenable true", "isOpenable false"};
        for (String answer : answers) {
            Check.due("the runs met '" + answer + "'", seen.getOrDefault(answer, 0) > 20, true);
        }
        System.out.println(seen);
    }
}
