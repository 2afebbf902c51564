import java.io.IOException;
import java.nio.file.Files;
import java.nio.file.Path;
import java.util.List;

/** The calls that README.md shows stand there as they are made here, and answer what it says of them. */
final class ReadmeTest {
    private static List<String> lines;

    public static void main(String[] args) throws IOException {
        lines = Files.readAllLines(Path.of("README.md"));
        ZipRecover zip = new ZipRecover(256);
        shown("ZipRecover zip = new ZipRecover(256);", "the capacity, clamped to 64..256");
        Check.due("add", zip.add(7), true);
        shown("zip.add(7);", "a pending entry with the name 7");
        Check.due("put", zip.put(104), true);
        shown("zip.put(104);", "its data, byte by byte");
        Check.due("put", zip.put(105), true);
        shown("zip.put(105);", "");
        answers("int length = zip.commit();", zip.commit(), ", or ERR_EMPTY, ERR_DAMAGED or ERR_FULL");
        answers("zip.sizeOf(7);", zip.sizeOf(7), "");
        answers("zip.dataAt(7, 0);", zip.dataAt(7, 0), "");
        answers("zip.dirInfo(0, ZipRecover.INFO_CRC);", zip.dirInfo(0, ZipRecover.INFO_CRC), "");
        damaged(zip);
        Check.end();
    }

    private static void damaged(ZipRecover zip) {
        Check.due("truncate", zip.truncate(40), true);
        shown("zip.truncate(40);", "damage: the end record is cut");
        shown("zip.isOpenable();", zip.isOpenable() + ", so sizeOf(7) answers " + zip.sizeOf(7));
        answers("zip.salvage();", zip.salvage(), " record found, and the directory is written anew");
        answers("zip.foundInfo(0, ZipRecover.INFO_NAME);", zip.foundInfo(0, ZipRecover.INFO_NAME), "");
        answers("zip.sizeOf(7);", zip.sizeOf(7), " again");
    }

    private static void answers(String call, long answer, String more) {
        shown(call, answer + more);
    }

    /** Takes the next line of README.md with this call, so that the calls stand in this order too. */
    private static void shown(String call, String comment) {
        int at = 0;
        while (at < lines.size() && !lines.get(at).startsWith(call)) {
            at++;
        }
        String rest = at < lines.size() ? lines.get(at).substring(call.length()).trim() : "no such line";
        Check.due("README.md, " + call, rest, comment.isEmpty() ? "" : "// " + comment);
        lines = lines.subList(Math.min(at + 1, lines.size()), lines.size());
    }
}
