/** Promise 7: poke. */
final class PokeTest {
    public static void main(String[] args) {
        refusals();
        everyByte();
        pastACut();
        Check.end();
    }

    private static void refusals() {
        ZipRecover x = Zips.busy();
        String before = Zips.state(x);
        for (int pos : new int[] {-1, 71, 72, 255, 256, Integer.MIN_VALUE, Integer.MAX_VALUE}) {
            for (int v : new int[] {-1, 0, 99, 255, 256}) {
                Check.due("poke(" + pos + ", " + v + ")", x.poke(pos, v), false);
            }
        }
        for (int v : Zips.NOT_BYTES) {
            Check.due("poke(0, " + v + ")", x.poke(0, v), false);
            Check.due("poke(70, " + v + ")", x.poke(70, v), false);
        }
        Check.due("state", Zips.state(x), before);
    }

    private static void everyByte() {
        ZipRecover x = Zips.busy();
        String before = Zips.state(x);
        String pending = Zips.pending(x);
        String found = Zips.found(x);
        int[] image = Zips.image(x);
        for (int pos = 0; pos < 71; pos++) {
            for (int v : new int[] {0, 255, 128, 77}) {
                Check.due("poke(" + pos + ", " + v + ")", x.poke(pos, v), true);
                int[] want = image.clone();
                want[pos] = v;
                Zips.dueImage("after poke(" + pos + ", " + v + ")", x, want);
                Check.due("pending", Zips.pending(x), pending);
                Check.due("found", Zips.found(x), found);
            }
            Check.due("poke back", x.poke(pos, image[pos]), true);
            Check.due("state after poking back", Zips.state(x), before);
        }
        Check.due("poke(70, 1)", x.poke(70, 1), true);
        Check.due("isOpenable()", x.isOpenable(), false);
    }

    private static void pastACut() {
        ZipRecover x = Zips.busy();
        x.truncate(10);
        Check.due("poke(10, 1)", x.poke(10, 1), false);
        Check.due("poke(9, 1)", x.poke(9, 1), true);
        x.truncate(0);
        Check.due("poke(0, 1)", x.poke(0, 1), false);
    }
}
