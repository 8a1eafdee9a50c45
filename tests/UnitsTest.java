import java.util.List;
import java.util.Random;

/** Sections 2 and 7: random texts, right and wrong ones, beside a plain reader and assembler. */
public final class UnitsTest {
    private static final String[] REGISTERS = {"a0", "a1", "s0", "t0", "zero", "sp", "x2", "x15", "fp", "ra", "a5", "a6", "x8", "t6"};
    private static final String[] NAMES = {"foo", "bar", "q", "k", ".L1", "_start", "rvc", "push", "hi"};
    private static final String KINDS = "lui auipc jal jalr beq bgeu lb lw lhu sb sw addi sltiu andi slli srai add sub mul remu and or xor fence ecall ebreak c.addi4spn c.lw c.sw c.nop c.addi c.jal c.li c.addi16sp c.lui c.srli c.srai "
        + "c.andi c.sub c.and c.j c.beqz c.bnez c.slli c.lwsp c.jr c.mv c.ebreak c.jalr c.add c.swsp nop mv not neg seqz snez sltz sgtz beqz bnez bgez bltz blez bgtz bgt ble bgtu bleu j jr ret li la call tail frob x5";
    private static final String DIRECTIVES = ".text .rodata .data .bss .globl .weak .equ .comm .byte .half .word .ascii .asciz .zero .align .option";

    public static void main(String[] args) {
        int[] seen = new int[24];
        for (int seed = 0; seed < 60000; seed++) {
            one(seed, seen);
        }
        for (int fault = 0; fault <= 19; fault++) {
            Check.due("FAULT " + fault + " was seen (" + seen[fault] + ")", fault == 8 || fault == 7 || fault == 17 || seen[fault] > 10, true);
        }
        Check.due("many were good (" + seen[0] + ")", seen[0] > 5000, true);
        Check.end();
    }

    private static String any(Random r, String... of) {
        return of[r.nextInt(of.length)];
    }

    private static int number(Random r) {
        int[] some = {0, 1, 2, 3, 4, 5, 8, 16, 31, 32, 63, 64, 124, 126, 128, 252, 255, 256, 496, 1020, 2047, 2048, 4095, 4096, 65535, 65536, 0xfffff, 0x100000, 0xfffe0, 0x7fffffff, 0x80000000, 6144, 0x12345fff, 12};
        return some[r.nextInt(r.nextInt(3) == 0 ? some.length : 12)];
    }

    private static String expression(Random r, int depth) {
        switch (r.nextInt(depth > 2 ? 6 : 10)) {
            case 0: case 1: return r.nextInt(3) == 0 ? "0x" + Integer.toHexString(number(r)) : "" + (number(r) & 0xffffffffL);
            case 2: return r.nextInt(60) == 0 ? any(r, "abcdefghijklmnopq", "abcdefghijklmnop", "_23456789.1234$67") : any(r, NAMES);
            case 3: return any(r, "1b", "1f", "2b", "2f", ".", "'a'", "'\\n'");
            case 4: return "-" + (number(r) & 0xffffffffL);
            case 5: return any(r, "foo", "bar", ".", "4", "k");
            case 6: return any(r, "-", "~", "- ") + expression(r, depth + 1);
            case 7: return "(" + expression(r, depth + 1) + ")";
            default: return expression(r, depth + 1) + any(r, " + ", " - ", "+", "-", "*", " / ", "%", "<<", ">>", "&", "|", "^", " - ", " + ") + expression(r, depth + 1);
        }
    }

    private static String operand(Random r, char c) {
        if (r.nextInt(40) == 0) {
            c = "rnmgst".charAt(r.nextInt(6));
        }
        switch (c) {
            case 'r': return any(r, REGISTERS);
            case 'p': return any(r, "sp", "x2");
            case 's': return any(r, NAMES);
            case 'o': return any(r, "rvc", "norvc", "relax", "norelax", "push", "pop", "pop", "rvc");
            case 'g': return any(r, "\"ab\"", "\"\"", "\"\\n\\\\\"", "\"x # y\"");
            case 'm': return (r.nextInt(5) == 0 ? "" : r.nextInt(5) == 0 ? any(r, "%lo(", "%pcrel_lo(", "%hi(") + any(r, "foo", "1b", "bar + 4", "2047") + ")" : r.nextInt(3) > 0 ? "" + 4 * r.nextInt(8) : expression(r, 1)) + "(" + any(r, REGISTERS) + ")";
            case 't': return r.nextInt(3) > 0 ? any(r, "foo", "bar", "1b", "1f", "2f", ".", "q + 4") : expression(r, 1);
            case 'k': return any(r, "%hi(", "%pcrel_hi(", "%lo(", "%pcrel_lo(") + any(r, "foo", "1b", "bar - 4", "0x12345", "foo - bar") + ")";
            default: return r.nextInt(9) == 0 ? operand(r, 'k') : r.nextInt(2) == 0 ? "" + (number(r) & 0xffffffffL) : expression(r, 0);
        }
    }

    /** The operands that a word may have; sometimes others. */
    private static String operands(Random r, String word) {
        String form;
        switch (word) {
            case "lui": case "auipc": case "c.lui": case "c.addi": case "c.li": case "c.srli": case "c.srai": case "c.andi": case "c.slli": case "li": form = "rn"; break;
            case "jal": form = any(r, "rt", "t"); break;
            case "jalr": form = any(r, "rm", "r"); break;
            case "beq": case "bgeu": case "bgt": case "ble": case "bgtu": case "bleu": form = "rrt"; break;
            case "lb": case "lw": case "lhu": form = any(r, "rm", "rt"); break;
            case "c.lw": case "c.sw": case "c.lwsp": case "c.swsp": form = "rm"; break;
            case "sb": case "sw": form = any(r, "rm", "rtr"); break;
            case "addi": case "sltiu": case "andi": case "slli": case "srai": form = "rrn"; break;
            case "add": case "sub": case "mul": case "remu": case "and": case "or": case "xor": form = "rrr"; break;
            case "c.addi4spn": form = "rpn"; break;
            case "c.addi16sp": form = "pn"; break;
            case "c.sub": case "c.and": case "c.mv": case "c.add": case "mv": case "not": case "neg": case "seqz": case "snez": case "sltz": case "sgtz": form = "rr"; break;
            case "c.j": case "c.jal": case "j": case "call": case "tail": form = "t"; break;
            case "c.beqz": case "c.bnez": case "beqz": case "bnez": case "bgez": case "bltz": case "blez": case "bgtz": case "la": form = "rt"; break;
            case "c.jr": case "c.jalr": case "jr": form = "r"; break;
            case ".globl": case ".weak": form = "s"; break;
            case ".option": form = "o"; break;
            case ".equ": form = "sn"; break;
            case ".comm": form = "snn"; break;
            case ".byte": case ".half": case ".word": form = any(r, "n", "nn", "t", "nt"); break;
            case ".ascii": case ".asciz": form = any(r, "g", "gg"); break;
            case ".zero": case ".align": form = "n"; break;
            default: form = ""; break;
        }
        if (r.nextInt(50) == 0) {
            form = form + "n";
        }
        StringBuilder s = new StringBuilder();
        for (int k = 0; k < form.length(); k++) {
            s.append(k == 0 ? " " : any(r, ", ", ",", " , ")).append(operand(r, form.charAt(k)));
        }
        return s.toString();
    }

    private static String text(Random r) {
        StringBuilder s = new StringBuilder();
        int n = 1 + r.nextInt(9);
        boolean quiet = r.nextInt(3) > 0;
        for (int k = 0; k < n; k++) {
            if (r.nextInt(3) == 0) {
                s.append(any(r, "foo: ", "bar:", "1:", "2: ", "1: 2:", "q :", "1 : "));
            }
            String word = any(r, r.nextInt(3) == 0 ? DIRECTIVES.split(" ") : KINDS.split(" "));
            if (quiet && (word.equals(".bss") || word.equals(".data") || word.equals(".rodata"))) {
                word = any(r, ".data\n.word", ".rodata\n.byte");
                s.append(word).append(" ").append(number(r) & 127).append("\n.text");
            } else {
                s.append(word).append(operands(r, word));
            }
            s.append(any(r, "\n", "\n", "\n", " # x\n", "\n\n"));
        }
        if (quiet) {
            s.append("1: 2:");
        }
        if (r.nextInt(12) == 0 && s.length() > 0) {
            s.setCharAt(r.nextInt(s.length()), (char) (r.nextInt(3) == 0 ? r.nextInt(256) : " \n,:()+-%\"'#.0x1bfa<".charAt(r.nextInt(20))));
        }
        return s.length() > 700 ? s.substring(0, 700) : s.toString();
    }

    private static void one(int seed, int[] seen) {
        Random r = new Random(seed);
        String text = text(r);
        AssemblerModel model = new AssemblerModel(text);
        int fault = 0;
        int place = -1;
        try {
            model.assemble();
        } catch (AssemblerModel.Fault e) {
            fault = e.number;
            place = e.place;
        }
        seen[fault]++;
        String told = "seed " + seed;
        ChainHouse x = new ChainHouse();
        int size = Check.assemble(x, 0, text);
        boolean same = x.fault(0) == fault && x.fault(1) == place;
        Check.due(told + ": FAULT " + x.fault(0) + " at " + x.fault(1) + ", due is " + fault + " at " + place + (same ? "" : "\n" + text), same, true);
        if (fault != 0 || size < 0) {
            return;
        }
        byte[] file = model.file();
        Check.due(told + ": size", size, file.length);
        for (int at = size % 17; at < size; at += 17) {
            Check.due(told + ": byte " + at, x.byteAt(0, at), file[at] & 255);
        }
        Check.due(told + ": check", x.check(0), 0);
        compare(told, x, model);
    }

    private static void compare(String told, ChainHouse x, AssemblerModel model) {
        int[] counts = {model.starts.size(), model.symbols.size(), model.relocations.size()};
        for (int k = 0; k < 3; k++) {
            Check.due(told + ": count " + k, x.object(4, 0, k), counts[k]);
        }
        for (int s = 0; s < 4; s++) {
            Check.due(told + ": bytes", x.object(0, s, 0), s == 3 ? model.bss : model.bytes.get(s).size());
            Check.due(told + ": alignment", x.object(0, s, 1), model.alignments[s]);
        }
        for (int k = 0; k < counts[0]; k++) {
            Check.due(told + ": start", x.object(1, k, 0), model.starts.get(k));
        }
        List<AssemblerModel.Symbol> order = model.inOrder();
        for (int k = 0; k < order.size(); k++) {
            AssemblerModel.Symbol s = order.get(k);
            int[] want = {s.where, s.value, s.size, s.bind, 0, s.name.length(), s.name.charAt(0)};
            for (int what = 0; what < 7; what++) {
                Check.due(told + ": symbol " + s.name + ", " + what, x.object(2, k, what), want[what]);
            }
        }
        // relocations are READ by sections
        int at = 0;
        for (int section = 0; section < 3; section++) {
            for (int[] row : model.relocations) {
                if (row[0] == section) {
                    Check.due(told + ": relocation's place", x.object(3, at, 1), row[1]);
                    Check.due(told + ": relocation's kind", x.object(3, at, 2), row[2]);
                    Check.due(told + ": relocation's symbol", x.object(3, at, 3), row[3] < 0 ? -1 : order.indexOf(model.symbols.get(row[3])));
                    Check.due(told + ": relocation's addend", x.object(3, at, 4), row[4]);
                    at++;
                }
            }
        }
        int table = Check.number(x, 0, 32, 4);
        for (int s = 0; s < 3; s++) {
            int begin = Check.number(x, 0, table + 40 * (s + 1) + 16, 4);
            for (int k = 0; k < Math.min(40, model.bytes.get(s).size()); k++) {
                Check.due(told + ": byte " + k + " of section " + s, x.byteAt(0, begin + k), model.bytes.get(s).get(k));
            }
        }
    }
}
