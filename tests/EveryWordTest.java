import java.util.ArrayList;
import java.util.List;
import java.util.Random;

/** Section 1: all 65,536 short words, and many long ones, told and assembled as the document's own rows of bits say. */
public final class EveryWordTest {
    public static void main(String[] args) {
        everyShort();
        manyLong();
        Check.end();
    }

    private static void everyShort() {
        List<String> batch = new ArrayList<>();
        List<Integer> words = new ArrayList<>();
        for (int from = 0; from < 65536; from += 28) {
            StringBuilder s = new StringBuilder(".globl _start\n_start: nop\n.half 0");
            int n = 0;
            int[] all = new int[28];
            for (int w = from; w < from + 28 && w < 65536; w++) {
                if ((w & 3) != 3) {
                    s.append(',').append(w);
                    all[n] = w;
                    n++;
                }
            }
            ChainHouse x = new ChainHouse();
            Check.assemble(x, 0, s.toString());
            Check.linkAndLoad(x, 1, true);
            for (int k = 0; k < n; k++) {
                int at = 65540 + 2 * k;
                String want = WordsModel.text(all[k], at);
                Check.due("the text of " + Integer.toHexString(all[k]), Check.told(x, at), want);
                if (!want.startsWith(".") && !want.startsWith("c.j ") && !want.startsWith("c.jal ") && !want.startsWith("c.b") && all[k] % 3 == 0) {
                    batch.add(want);
                    words.add(all[k]);
                }
            }
            if (batch.size() >= 80) {
                assembled(batch, words);
            }
        }
        assembled(batch, words);
    }

    /** Texts make the words of which they are told. */
    private static void assembled(List<String> texts, List<Integer> words) {
        ChainHouse x = new ChainHouse();
        Check.due("assemble", Check.assemble(x, 0, ".globl _start\n_start: nop\n" + String.join("\n", texts)) > 0, true);
        Check.linkAndLoad(x, 1, true);
        for (int k = 0; k < words.size(); k++) {
            Check.due("the word of " + texts.get(k), x.peek(65538 + 2 * k) | x.peek(65539 + 2 * k) << 8, words.get(k));
        }
        texts.clear();
        words.clear();
    }

    private static void manyLong() {
        Random r = new Random(3);
        List<Integer> words = new ArrayList<>(List.of(0x0ff0000f, 0x73, 0x00100073, 0x0ff0008f, 0x1ff0000f, 0x0ff0100f, 0x000000f3, 0x00000173, 0x00200073, 0x00108073, 0x00101073, 0x80000073));
        int[] sevens = {0, 1, 2, 16, 31, 32, 33, 64, 127};
        for (int opcode = 3; opcode < 128; opcode += 4) {
            for (int f3 = 0; f3 < 8; f3++) {
                for (int f7 : sevens) {
                    words.add(r.nextInt() & 0x01ff8f80 | f7 << 25 | f3 << 12 | opcode);
                }
                words.add(r.nextInt() & 0xffff8f80 | f3 << 12 | opcode);
            }
        }
        for (int opcode : new int[] {0x37, 0x17, 0x6f, 0x67, 0x63, 0x03, 0x23, 0x13, 0x33}) {
            for (int bit = 7; bit < 32; bit++) {
                words.add(opcode | 1 << bit);
                words.add(~(1 << bit) & (0xffffff80 | opcode));
            }
        }
        for (int from = 0; from < words.size(); from += 16) {
            StringBuilder s = new StringBuilder(".globl _start\n_start: nop\n.half 0\n.word 0");
            int n = Math.min(16, words.size() - from);
            for (int k = 0; k < n; k++) {
                s.append(",0x").append(Integer.toHexString(words.get(from + k)));
            }
            ChainHouse x = new ChainHouse();
            Check.assemble(x, 0, s.toString());
            Check.linkAndLoad(x, 1, true);
            for (int k = 0; k < n; k++) {
                int at = 65544 + 4 * k;
                String want = WordsModel.text(words.get(from + k), at);
                Check.due("the text of " + Integer.toHexString(words.get(from + k)), Check.told(x, at), want);
            }
        }
    }
}
