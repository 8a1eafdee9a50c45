import java.util.HashMap;
import java.util.Map;

/** Section 1's rows for tests: short kinds as the document writes their bits, and the long ones' fields. */
public final class WordsModel {
    private WordsModel() {
    }

    public static final String[] REGISTERS = ("zero ra sp gp tp t0 t1 t2 s0 s1 a0 a1 a2 a3 a4 a5 a6 a7 s2 s3 s4 s5 s6 s7 s8 s9 s10 s11 t3 t4 t5 t6").split(" ");
    /** Name; the bits from 15 down to 0; the sign bit of i (0 for none); what else must be; the operands; the long kind; its d and a (- its own, = as d). */
    public static final String[][] SHORTS = {
        {"c.addi4spn", "000 i5 i4 i9 i8 i7 i6 i2 i3 d' 00", "0", "i", "d, sp, I", "addi", "-", "2"},
        {"c.lw", "010 i5 i4 i3 a' i2 i6 d' 00", "0", "", "d, O(a)", "lw", "-", "-"},
        {"c.sw", "110 i5 i4 i3 a' i2 i6 b' 00", "0", "", "b, O(a)", "sw", "-", "-"},
        {"c.nop", "0000000000000001", "0", "", "", "addi", "0", "0"},
        {"c.addi", "000 i5 d i4 i3 i2 i1 i0 01", "5", "di", "d, I", "addi", "-", "="},
        {"c.jal", "001 i11 i4 i9 i8 i10 i6 i7 i3 i2 i1 i5 01", "11", "", "P", "jal", "1", "-"},
        {"c.li", "010 i5 d i4 i3 i2 i1 i0 01", "5", "d", "d, I", "addi", "-", "0"},
        {"c.addi16sp", "011 i9 00010 i4 i6 i8 i7 i5 01", "9", "i", "sp, I", "addi", "2", "2"},
        {"c.lui", "011 i5 d i4 i3 i2 i1 i0 01", "5", "dil", "d, X", "lui", "-", "-"},
        {"c.srli", "100 0 00 d' i4 i3 i2 i1 i0 01", "0", "i", "d, I", "srli", "-", "="},
        {"c.srai", "100 0 01 d' i4 i3 i2 i1 i0 01", "0", "i", "d, I", "srai", "-", "="},
        {"c.andi", "100 i5 10 d' i4 i3 i2 i1 i0 01", "5", "", "d, I", "andi", "-", "="},
        {"c.sub", "100 0 11 d' 00 b' 01", "0", "", "d, b", "sub", "-", "="},
        {"c.xor", "100 0 11 d' 01 b' 01", "0", "", "d, b", "xor", "-", "="},
        {"c.or", "100 0 11 d' 10 b' 01", "0", "", "d, b", "or", "-", "="},
        {"c.and", "100 0 11 d' 11 b' 01", "0", "", "d, b", "and", "-", "="},
        {"c.j", "101 i11 i4 i9 i8 i10 i6 i7 i3 i2 i1 i5 01", "11", "", "P", "jal", "0", "-"},
        {"c.beqz", "110 i8 i4 i3 a' i7 i6 i2 i1 i5 01", "8", "", "a, P", "beq", "-", "-"},
        {"c.bnez", "111 i8 i4 i3 a' i7 i6 i2 i1 i5 01", "8", "", "a, P", "bne", "-", "-"},
        {"c.slli", "000 0 d i4 i3 i2 i1 i0 10", "0", "di", "d, I", "slli", "-", "="},
        {"c.lwsp", "010 i5 d i4 i3 i2 i7 i6 10", "0", "d", "d, O(sp)", "lw", "-", "2"},
        {"c.jr", "100 0 a 00000 10", "0", "a", "a", "jalr", "0", "-"},
        {"c.mv", "100 0 d b 10", "0", "db", "d, b", "add", "-", "0"},
        {"c.ebreak", "1001000000000010", "0", "", "", "ebreak", "-", "-"},
        {"c.jalr", "100 1 a 00000 10", "0", "a", "a", "jalr", "1", "-"},
        {"c.add", "100 1 d b 10", "0", "db", "d, b", "add", "-", "="},
        {"c.swsp", "110 i5 i4 i3 i2 i7 i6 b 10", "0", "", "b, O(sp)", "sw", "-", "2"}};

    /** d, a, b and i of a short word by one of the rows; null when it isn't of that kind. */
    public static int[] parts(String[] row, int w) {
        int bit = 15;
        int[] part = new int[3];
        int i = 0;
        for (String token : row[1].split(" ")) {
            char c = token.charAt(0);
            if (c == 'i') {
                i |= (w >> bit & 1) << Integer.parseInt(token.substring(1));
                bit--;
            } else if (c == 'd' || c == 'a' || c == 'b') {
                int n = token.length() == 2 ? 3 : 5;
                part["dab".indexOf(c)] = (w >> bit - n + 1 & (1 << n) - 1) + (n == 3 ? 8 : 0);
                bit -= n;
            } else {
                for (int k = 0; k < token.length(); k++) {
                    if ((w >> bit & 1) != token.charAt(k) - '0') {
                        return null;
                    }
                    bit--;
                }
            }
        }
        int sign = Integer.parseInt(row[2]);
        if (sign > 0 && (i >> sign & 1) != 0) {
            i -= 2 << sign;
        }
        for (char c : row[3].toCharArray()) {
            if (c == 'i' ? i == 0 : c == 'l' ? part[0] == 2 : part["dab".indexOf(c)] == 0) {
                return null;
            }
        }
        return new int[] {part[0], part[1], part[2], row[3].contains("l") ? i & 0xfffff : i};
    }

    private static final Map<String, Integer> WORDS = new HashMap<>();
    private static final Map<String, Integer> STANDING = new HashMap<>();

    static {
        for (String[] row : SHORTS) {
            for (int w = 0; w < 65536; w++) {
                int[] p = (w & 3) == 3 ? null : parts(row, w);
                if (p != null) {
                    WORDS.putIfAbsent(key(row[0], p[0], p[1], p[2], p[3]), w);
                    int d = row[6].equals("-") ? p[0] : Integer.parseInt(row[6]);
                    int a = row[7].equals("-") ? p[1] : row[7].equals("=") ? d : Integer.parseInt(row[7]);
                    STANDING.putIfAbsent(key(row[5], d, a, p[2], p[3]), w);
                }
            }
        }
    }

    private static String key(String name, int d, int a, int b, int i) {
        return name + " " + d + " " + a + " " + b + " " + i;
    }

    /** A short word with these parts; null when there is none. */
    public static Integer shortWord(String name, int d, int a, int b, int i) {
        return WORDS.get(key(name, d, a, b, i));
    }

    /** The SHORTER word of a long one; null without one. */
    public static Integer shorter(String name, int d, int a, int b, int i) {
        Integer w = STANDING.get(key(name, d, a, b, i));
        if (w == null && d == b && (name.equals("add") || name.equals("xor") || name.equals("or") || name.equals("and"))) {
            w = STANDING.get(key(name, d, b, a, i));
        }
        if (w == null && name.equals("addi") && i == 0 && d != 0 && a != 0) {
            w = STANDING.get(key("add", d, 0, a, 0));
        }
        return w;
    }

    public static boolean isAmong(String name, String names) {
        return (" " + names + " ").contains(" " + name + " ");
    }

    private static int at(String name, String names) {
        return java.util.Arrays.asList(names.split(" ")).indexOf(name);
    }

    /** A long word. */
    public static int longWord(String name, int d, int a, int b, int i) {
        int regs = d << 7 | a << 15 | b << 20;
        int f3;
        if ((f3 = at(name, "add sll slt sltu xor srl or and")) >= 0) {
            return 0x33 | f3 << 12 | regs;
        }
        if ((f3 = at(name, "mul mulh mulhsu mulhu div divu rem remu")) >= 0) {
            return 0x02000033 | f3 << 12 | regs;
        }
        if ((f3 = at(name, "addi slli slti sltiu xori srli ori andi")) >= 0) {
            return 0x13 | f3 << 12 | d << 7 | a << 15 | i << 20;
        }
        if ((f3 = at(name, "lb lh lw - lbu lhu")) >= 0) {
            return 0x03 | f3 << 12 | d << 7 | a << 15 | i << 20;
        }
        if ((f3 = at(name, "sb sh sw")) >= 0) {
            return 0x23 | f3 << 12 | a << 15 | b << 20 | (i >> 5 & 127) << 25 | (i & 31) << 7;
        }
        if ((f3 = at(name, "beq bne - - blt bge bltu bgeu")) >= 0) {
            return 0x63 | f3 << 12 | a << 15 | b << 20;
        }
        switch (name) {
            case "sub": return 0x40000033 | regs;
            case "sra": return 0x40005033 | regs;
            case "srai": return 0x40005013 | d << 7 | a << 15 | i << 20;
            case "lui": return 0x37 | d << 7 | i << 12;
            case "auipc": return 0x17 | d << 7 | i << 12;
            case "jal": return 0x6f | d << 7;
            case "jalr": return 0x67 | d << 7 | a << 15 | i << 20;
            case "fence": return 0x0ff0000f;
            case "ecall": return 0x73;
            default: return 0x00100073;
        }
    }

    /** The TEXT of a word at a place. */
    public static String text(int bits, int at) {
        return (bits & 3) == 3 ? longText(bits, at) : shortText(bits & 0xffff, at);
    }

    /** The text of a short word by one of the rows; null when it isn't of that kind. */
    private static String by(String[] row, int w, int at) {
        int[] p = parts(row, w);
        if (p == null) {
            return null;
        }
        int[] part = new int[128];
        part['d'] = p[0];
        part['a'] = p[1];
        part['b'] = p[2];
        return row[0] + (row[4].isEmpty() ? "" : " ") + operands(row[4], part, p[3], at);
    }

    private static String operands(String form, int[] part, int i, int at) {
        return form.replace("I", "" + i).replace("O", "" + i).replace("P", "0x" + Integer.toHexString(at + i)).replace("X", "0x" + Integer.toHexString(i))
            .replaceAll("\\bd\\b", REGISTERS[part['d']]).replaceAll("\\ba\\b", REGISTERS[part['a']]).replaceAll("\\bb\\b", REGISTERS[part['b']]);
    }

    private static String shortText(int w, int at) {
        for (String[] row : SHORTS) {
            String text = by(row, w, at);
            if (text != null) {
                return text;
            }
        }
        return ".half 0x" + Integer.toHexString(w);
    }

    private static String longText(int w, int at) {
        String none = ".word 0x" + Integer.toHexString(w);
        int f3 = w >> 12 & 7;
        int f7 = w >>> 25;
        int[] part = new int[128];
        part['d'] = w >> 7 & 31;
        part['a'] = w >> 15 & 31;
        part['b'] = w >> 20 & 31;
        int i = w >> 20;
        String[] branches = {"beq", "bne", "", "", "blt", "bge", "bltu", "bgeu"};
        String[] loads = {"lb", "lh", "lw", "", "lbu", "lhu", "", ""};
        String[] stores = {"sb", "sh", "sw", "", "", "", "", ""};
        String[] immediates = {"addi", "", "slti", "sltiu", "xori", "", "ori", "andi"};
        String[] plain = {"add", "sll", "slt", "sltu", "xor", "srl", "or", "and"};
        String[] multiplying = {"mul", "mulh", "mulhsu", "mulhu", "div", "divu", "rem", "remu"};
        String name = "";
        String form = "";
        switch (w & 127) {
            case 0x37: name = "lui"; form = "d, X"; i = w >>> 12; break;
            case 0x17: name = "auipc"; form = "d, X"; i = w >>> 12; break;
            case 0x6f:
                name = "jal";
                form = "d, P";
                i = (w >> 31) << 20 | (w >> 21 & 1023) << 1 | (w >> 20 & 1) << 11 | (w >> 12 & 255) << 12;
                break;
            case 0x67: name = f3 == 0 ? "jalr" : ""; form = "d, O(a)"; break;
            case 0x63:
                name = branches[f3];
                form = "a, b, P";
                i = (w >> 31) << 12 | (w >> 25 & 63) << 5 | (w >> 8 & 15) << 1 | (w >> 7 & 1) << 11;
                break;
            case 0x03: name = loads[f3]; form = "d, O(a)"; break;
            case 0x23: name = stores[f3]; form = "b, O(a)"; i = (w >> 25) << 5 | w >> 7 & 31; break;
            case 0x13:
                name = f3 == 1 ? f7 == 0 ? "slli" : "" : f3 == 5 ? f7 == 0 ? "srli" : f7 == 32 ? "srai" : "" : immediates[f3];
                form = "d, a, I";
                i = f3 == 1 || f3 == 5 ? w >> 20 & 31 : i;
                break;
            case 0x33:
                name = f7 == 0 ? plain[f3] : f7 == 1 ? multiplying[f3] : f7 == 32 && f3 == 0 ? "sub" : f7 == 32 && f3 == 5 ? "sra" : "";
                form = "d, a, b";
                break;
            default: break;
        }
        if (w == 0x0ff0000f || w == 0x73 || w == 0x00100073) {
            return w == 0x73 ? "ecall" : w == 0x00100073 ? "ebreak" : "fence";
        }
        return name.isEmpty() ? none : name + " " + operands(form, part, i, at);
    }
}
