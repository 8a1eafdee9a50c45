import java.util.ArrayList;
import java.util.List;
import java.util.Random;

/** Section 1: all 65,536 short words, and many long ones, told and assembled as the document's own rows of bits say. */
public final class EveryWordTest {
    private static final String[] REGISTERS = WordsModel.REGISTERS;

    public static void main(String[] args) {
        everyShort();
        manyLong();
        Check.end();
    }

    /** The text of a short word by one of the rows; null when it isn't of that kind. */
    private static String by(String[] row, int w, int at) {
        int[] p = WordsModel.parts(row, w);
        if (p == null) {
            return null;
        }
        int[] part = new int[128];
        part['d'] = p[0];
        part['a'] = p[1];
        part['b'] = p[2];
        return row[0] + (row[4].isEmpty() ? "" : " ") + operands(row[4], part, p[3], at);
    }

    private static String operands(String form, int[] part, int i, int at) {
        return form.replace("I", "" + i).replace("O", "" + i).replace("P", "0x" + Integer.toHexString(at + i)).replace("X", "0x" + Integer.toHexString(i))
            .replaceAll("\\bd\\b", REGISTERS[part['d']]).replaceAll("\\ba\\b", REGISTERS[part['a']]).replaceAll("\\bb\\b", REGISTERS[part['b']]);
    }

    private static String textOf(int w, int at) {
        for (String[] row : WordsModel.SHORTS) {
            String text = by(row, w, at);
            if (text != null) {
                return text;
            }
        }
        return ".half 0x" + Integer.toHexString(w);
    }

    private static void everyShort() {
        List<String> batch = new ArrayList<>();
        List<Integer> words = new ArrayList<>();
        for (int from = 0; from < 65536; from += 28) {
            StringBuilder s = new StringBuilder(".globl _start\n_start: nop\n.half 0");
            int n = 0;
            int[] all = new int[28];
            for (int w = from; w < from + 28 && w < 65536; w++) {
                if ((w & 3) != 3) {
                    s.append(',').append(w);
                    all[n] = w;
                    n++;
                }
            }
            ChainHouse x = new ChainHouse();
            Check.assemble(x, 0, s.toString());
            Check.linkAndLoad(x, 1, true);
            for (int k = 0; k < n; k++) {
                int at = 65540 + 2 * k;
                String want = textOf(all[k], at);
                Check.due("the text of " + Integer.toHexString(all[k]), Check.told(x, at), want);
                if (!want.startsWith(".") && !want.startsWith("c.j ") && !want.startsWith("c.jal ") && !want.startsWith("c.b") && all[k] % 3 == 0) {
                    batch.add(want);
                    words.add(all[k]);
                }
            }
            if (batch.size() >= 80) {
                assembled(batch, words);
            }
        }
        assembled(batch, words);
    }

    /** Texts make the words of which they are told. */
    private static void assembled(List<String> texts, List<Integer> words) {
        ChainHouse x = new ChainHouse();
        Check.due("assemble", Check.assemble(x, 0, ".globl _start\n_start: nop\n" + String.join("\n", texts)) > 0, true);
        Check.linkAndLoad(x, 1, true);
        for (int k = 0; k < words.size(); k++) {
            Check.due("the word of " + texts.get(k), x.peek(65538 + 2 * k) | x.peek(65539 + 2 * k) << 8, words.get(k));
        }
        texts.clear();
        words.clear();
    }

    private static String longText(int w, int at) {
        String none = ".word 0x" + Integer.toHexString(w);
        int f3 = w >> 12 & 7;
        int f7 = w >>> 25;
        int[] part = new int[128];
        part['d'] = w >> 7 & 31;
        part['a'] = w >> 15 & 31;
        part['b'] = w >> 20 & 31;
        int i = w >> 20;
        String[] branches = {"beq", "bne", "", "", "blt", "bge", "bltu", "bgeu"};
        String[] loads = {"lb", "lh", "lw", "", "lbu", "lhu", "", ""};
        String[] stores = {"sb", "sh", "sw", "", "", "", "", ""};
        String[] immediates = {"addi", "", "slti", "sltiu", "xori", "", "ori", "andi"};
        String[] plain = {"add", "sll", "slt", "sltu", "xor", "srl", "or", "and"};
        String[] multiplying = {"mul", "mulh", "mulhsu", "mulhu", "div", "divu", "rem", "remu"};
        String name = "";
        String form = "";
        switch (w & 127) {
            case 0x37: name = "lui"; form = "d, X"; i = w >>> 12; break;
            case 0x17: name = "auipc"; form = "d, X"; i = w >>> 12; break;
            case 0x6f:
                name = "jal";
                form = "d, P";
                i = (w >> 31) << 20 | (w >> 21 & 1023) << 1 | (w >> 20 & 1) << 11 | (w >> 12 & 255) << 12;
                break;
            case 0x67: name = f3 == 0 ? "jalr" : ""; form = "d, O(a)"; break;
            case 0x63:
                name = branches[f3];
                form = "a, b, P";
                i = (w >> 31) << 12 | (w >> 25 & 63) << 5 | (w >> 8 & 15) << 1 | (w >> 7 & 1) << 11;
                break;
            case 0x03: name = loads[f3]; form = "d, O(a)"; break;
            case 0x23: name = stores[f3]; form = "b, O(a)"; i = (w >> 25) << 5 | w >> 7 & 31; break;
            case 0x13:
                name = f3 == 1 ? f7 == 0 ? "slli" : "" : f3 == 5 ? f7 == 0 ? "srli" : f7 == 32 ? "srai" : "" : immediates[f3];
                form = "d, a, I";
                i = f3 == 1 || f3 == 5 ? w >> 20 & 31 : i;
                break;
            case 0x33:
                name = f7 == 0 ? plain[f3] : f7 == 1 ? multiplying[f3] : f7 == 32 && f3 == 0 ? "sub" : f7 == 32 && f3 == 5 ? "sra" : "";
                form = "d, a, b";
                break;
            default: break;
        }
        if (w == 0x0ff0000f || w == 0x73 || w == 0x00100073) {
            return w == 0x73 ? "ecall" : w == 0x00100073 ? "ebreak" : "fence";
        }
        return name.isEmpty() ? none : name + " " + operands(form, part, i, at);
    }

    private static void manyLong() {
        Random r = new Random(3);
        List<Integer> words = new ArrayList<>(List.of(0x0ff0000f, 0x73, 0x00100073, 0x0ff0008f, 0x1ff0000f, 0x0ff0100f, 0x000000f3, 0x00000173, 0x00200073, 0x00108073, 0x00101073, 0x80000073));
        int[] sevens = {0, 1, 2, 16, 31, 32, 33, 64, 127};
        for (int opcode = 3; opcode < 128; opcode += 4) {
            for (int f3 = 0; f3 < 8; f3++) {
                for (int f7 : sevens) {
                    words.add(r.nextInt() & 0x01ff8f80 | f7 << 25 | f3 << 12 | opcode);
                }
                words.add(r.nextInt() & 0xffff8f80 | f3 << 12 | opcode);
            }
        }
        for (int opcode : new int[] {0x37, 0x17, 0x6f, 0x67, 0x63, 0x03, 0x23, 0x13, 0x33}) {
            for (int bit = 7; bit < 32; bit++) {
                words.add(opcode | 1 << bit);
                words.add(~(1 << bit) & (0xffffff80 | opcode));
            }
        }
        for (int from = 0; from < words.size(); from += 16) {
            StringBuilder s = new StringBuilder(".globl _start\n_start: nop\n.half 0\n.word 0");
            int n = Math.min(16, words.size() - from);
            for (int k = 0; k < n; k++) {
                s.append(",0x").append(Integer.toHexString(words.get(from + k)));
            }
            ChainHouse x = new ChainHouse();
            Check.assemble(x, 0, s.toString());
            Check.linkAndLoad(x, 1, true);
            for (int k = 0; k < n; k++) {
                int at = 65544 + 4 * k;
                String want = longText(words.get(from + k), at);
                Check.due("the text of " + Integer.toHexString(words.get(from + k)), Check.told(x, at), want);
            }
        }
    }
}
