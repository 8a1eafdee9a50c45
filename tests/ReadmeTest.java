import java.nio.file.Files;
import java.nio.file.Path;
import java.util.List;

/** README.md: its run of calls stands here line by line, and answers what it says there. */
public final class ReadmeTest {
    public static void main(String[] args) throws Exception {
        example();
        sameLines();
        Check.end();
    }

    private static void example() {
        // README begins
        String text = ".globl _start\n"
            + "_start: la a1, greeting  # auipc and addi, as long as nothing is linked\n"
            + "li a7, 1                 # service 1 puts a byte\n"
            + "1: lbu a0, 0(a1)\n"
            + "beqz a0, 2f\n"
            + "ecall\n"
            + "addi a1, a1, 1\n"
            + "j 1b\n"
            + "2: li a7, 10             # service 10 ends\n"
            + "ecall\n"
            + ".data\n"
            + "greeting: .asciz \"Hi\"\n";
        ChainHouse x = new ChainHouse();
        for (int from = 0; from < text.length(); from += 20) {
            int[] five = new int[5];
            for (int k = 0; k < 20 && from + k < text.length(); k++) {
                five[k / 4] |= text.charAt(from + k) << 24 - 8 * (k % 4);
            }
            x.feed(five[0], five[1], five[2], five[3], five[4]);
            x.end(Math.min(20, text.length() - from));
        }
        int object = x.assemble(0);      // the TEXT is unit 0's FILE now; 776 bytes of an ELF32 object
        int image = x.link(1, true);     // unit 0 (bit 0 of the set) is the IMAGE now, made smaller; 228 bytes
        int fault = x.load();            // 0: the IMAGE is in a new machine
        int units = x.run(2000);         // 16 statements were worked
        int state = x.state(0);          // 8: ended by service 10
        int first = x.output(0);         // 'H'
        int second = x.output(1);        // 'i'
        int undone = x.back(3);          // 3: the last three steps are undone
        // README ends
        Check.due("assemble", object, 776);
        Check.due("link", image, 228);
        Check.due("load", fault, 0);
        Check.due("run", units, 16);
        Check.due("state", state, 8);
        Check.due("output", first, 'H');
        Check.due("output", second, 'i');
        Check.due("back", undone, 3);
    }

    private static void sameLines() throws Exception {
        List<String> readme = Files.readAllLines(Path.of("README.md"));
        List<String> source = Files.readAllLines(Path.of("tests/ReadmeTest.java"));
        int from = source.indexOf("        // README begins") + 1;
        int to = source.indexOf("        // README ends");
        int at = readme.indexOf(source.get(from).strip());
        Check.due("README.md has the run of calls", at >= 0 && at + to - from <= readme.size(), true);
        for (int k = from; k < to && at >= 0; k++) {
            Check.due("README.md's line", readme.get(at + k - from), source.get(k).substring(8));
        }
    }
}
