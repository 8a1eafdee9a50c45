/** Section 7, sentence by sentence: the FAULTS 9 to 20 in the order in which they are asked, each number at both ends of what may be. */
public final class EdgesAssembleTest {
    private static final String[] REGISTERS = ("zero ra sp gp tp t0 t1 t2 s0 s1 a0 a1 a2 a3 a4 a5 a6 a7 s2 s3 s4 s5 s6 s7 s8 s9 s10 s11 t3 t4 t5 t6").split(" ");

    public static void main(String[] args) {
        immediates();
        registers();
        stackPointers();
        dataNumbers();
        order();
        wordsAndSections();
        operandsAsTaken();
        symbolRoom();
        relocationRoom();
        byteRoom();
        fileRoom();
        options();
        definitions();
        locals();
        hidden();
        values();
        again();
        Check.end();
    }

    /** An instruction or directive with # for a number: those from low to high that are multiples of step may be. */
    private static void ends(String form, long low, long high, int step, boolean zero) {
        long[] may = {low, high, low + step, high - step, zero ? 0 : low};
        long[] mayNot = {low - step, high + step, low - 1, high + 1, zero ? high + 1 : 0, high + 4096, low - 4096, 2147483647, -2147483648L,
            step > 1 ? low + 1 : low - 1, step > 1 ? high - 1 : high + 1, step > 1 ? low + step / 2 : low - 1, step > 1 ? high - step / 2 : high + 1, step > 2 ? low + 2 : low - 1, step > 2 ? low + 3 : low - 1};
        int at = form.indexOf('#');
        for (long v : may) {
            if (v != 0 || zero) {
                Check.good(form.replace("#", "" + v));
            }
        }
        for (long v : mayNot) {
            if (v < low || v > high || v % step != 0 || v == 0 && !zero) {
                Check.fault(form.replace("#", "" + v), 15, at);
            }
        }
    }

    private static void immediates() {
        for (String name : "addi slti sltiu xori ori andi".split(" ")) {
            ends(name + " a0, a1, #", -2048, 2047, 1, true);
        }
        for (String name : "jalr lb lh lw lbu lhu sb sh sw".split(" ")) {
            ends(name + " a0, #(a1)", -2048, 2047, 1, true);
        }
        for (String name : "slli srli srai".split(" ")) {
            ends(name + " a0, a1, #", 0, 31, 1, true);
        }
        ends("lui a0, #", 0, 1048575, 1, true);
        ends("auipc a0, #", 0, 1048575, 1, true);
        ends("c.addi4spn a0, sp, #", 4, 1020, 4, false);
        ends("c.lw a0, #(a1)", 0, 124, 4, true);
        ends("c.sw a0, #(a1)", 0, 124, 4, true);
        ends("c.addi t0, #", -32, 31, 1, false);
        ends("c.li t0, #", -32, 31, 1, true);
        ends("c.addi16sp sp, #", -512, 496, 16, false);
        ends("c.srli a0, #", 1, 31, 1, false);
        ends("c.srai a0, #", 1, 31, 1, false);
        ends("c.andi a0, #", -32, 31, 1, true);
        ends("c.slli t0, #", 1, 31, 1, false);
        ends("c.lwsp t0, #(sp)", 0, 252, 4, true);
        ends("c.swsp t0, #(sp)", 0, 252, 4, true);
        for (int good : new int[] {1, 2, 31, 1048544, 1048575}) {
            Check.good("c.lui t0, " + good);
        }
        for (int bad : new int[] {0, 32, 33, 1048543, 1048576, -1, -32, 2147483647, -2147483648}) {
            Check.fault("c.lui t0, " + bad, 15, 10);
        }
        // a number is an int: 2^32 - 1 is -1
        Check.good("addi a0, a1, 4294967295");
        Check.good("addi a0, a1, 0xfffff800");
        Check.fault("addi a0, a1, 0xfffff7ff", 15, 13);
        // li has any number: one word at -2048 and 2047, else two, or one if the lowest 12 bits are 0
        int[] numbers = {-2048, 2047, -2049, 2048, 4096, -4096, 6143, 6144, 2147483647, -2147483648, 0x7ffff800, 0x7ffff7ff};
        int[] bytes = {4, 4, 8, 8, 4, 4, 8, 8, 8, 4, 8, 8};
        for (int k = 0; k < numbers.length; k++) {
            Check.due("bytes of li " + numbers[k], Check.good(".option norvc\nli a0, " + numbers[k]).object(0, 0, 0), bytes[k]);
            Check.due("bytes of la " + numbers[k], Check.good(".option norvc\nla a0, " + numbers[k]).object(0, 0, 0), bytes[k]);
            ChainHouse x = Check.good(".globl _start\n_start: li a0, " + numbers[k] + "\nla a1, " + numbers[k] + "\nebreak");
            Check.linkAndLoad(x, 1, true);
            x.run(10);
            Check.due("li " + numbers[k], x.get(10), numbers[k]);
            Check.due("la " + numbers[k], x.get(11), numbers[k]);
        }
    }

    /** An instruction with # for a register: S short ones, N all but zero, L all but zero and sp, A all. */
    private static void takes(String form, char which) {
        for (int r = 0; r < 32; r++) {
            boolean may = which == 'A' || which == 'S' && r >= 8 && r <= 15 || which == 'N' && r != 0 || which == 'L' && r != 0 && r != 2;
            String text = form.replace("#", REGISTERS[r]);
            if (may) {
                Check.good(text);
            } else {
                // of a MEMORY the operand begins ahead of the register
                int at = form.indexOf("(#)");
                Check.fault(text, 15, at < 0 ? form.indexOf('#') : at - 1);
            }
        }
    }

    private static void registers() {
        for (String form : "c.addi4spn #, sp, 4;c.lw #, 0(a0);c.lw a0, 0(#);c.sw #, 0(a0);c.sw a0, 0(#);c.srli #, 1;c.srai #, 1;c.andi #, 1;c.sub #, a0;c.sub a0, #;c.xor #, a0;c.xor a0, #;c.or #, a0;c.or a0, #;c.and #, a0;c.and a0, #;c.beqz #, x;c.bnez #, x".split(";")) {
            takes(form, 'S');
        }
        for (String form : "c.addi #, 1;c.li #, 1;c.slli #, 1;c.lwsp #, 0(sp);c.jr #;c.jalr #;c.mv #, a0;c.mv a0, #;c.add #, a0;c.add a0, #".split(";")) {
            takes(form, 'N');
        }
        takes("c.lui #, 1", 'L');
        for (String form : "c.swsp #, 0(sp);add #, a0, a1;add a0, #, a1;add a0, a1, #;addi #, a0, 1;addi a0, #, 1;lw #, 0(a0);lw a0, 0(#);sw #, 0(a0);sw a0, 0(#);lui #, 1;jal #, x;jalr #, 0(a0);jr #;jalr #;beq #, a0, x;beq a0, #, x;lw #, x;sw #, x, a0;sw a0, x, #;la #, x;li #, 5;mv #, a0;not a0, #;bgt #, a0, x;blez #, x".split(";")) {
            takes(form, 'A');
        }
        // the number, or the EXPRESSION, of a MEMORY is asked ahead of its register
        Check.fault("c.lw a0, 1(t0)", 15, 9);
        Check.fault("c.lw a0, 1/0(t0)", 14, 9);
        Check.fault("c.lw a0, 1b(t0)", 13, 9);
        Check.fault("c.lw t0, 1b(t0)", 15, 5);
    }

    /** sp is that register alone. */
    private static void stackPointers() {
        for (int r = 0; r < 32; r++) {
            for (String form : new String[] {"c.addi4spn a0, #, 4", "c.addi16sp #, 16", "c.lwsp a0, 0(#)", "c.swsp a0, 0(#)"}) {
                String text = form.replace("#", REGISTERS[r]);
                if (r == 2) {
                    Check.good(text);
                    Check.good(text.replace("sp, ", "x2, ").replace("(sp)", "(x2)"));
                } else {
                    Check.fault("nop\n" + text, 12, 4);
                }
            }
        }
        Check.fault("c.addi16sp 2, 16", 12, 0);
        for (String bad : new String[] {"(sp)", "0(sp)", "%lo(x)(sp)", "\"sp\""}) {
            Check.fault("c.addi16sp " + bad + ", 16", 12, 0);
            Check.fault("c.addi4spn a0, " + bad + ", 4", 12, 0);
        }
        Check.fault("c.lwsp a0, 0", 12, 0);
        Check.fault("c.lwsp a0, sp", 12, 0);
        Check.good("c.lwsp a0, (sp)");
    }

    private static void dataNumbers() {
        ends(".byte #", -128, 255, 1, true);
        ends(".half #", -32768, 65535, 1, true);
        ends(".byte 0, #, 1", -128, 255, 1, true);
        for (long v : new long[] {-2147483648L, 2147483647, 4294967295L, 0}) {
            Check.due(".word", Check.number(Check.good(".word " + v), 0, 52, 4), (int) v);
        }
        ends(".bss\n.zero #", 0, 4096, 1, true);
        ends(".align #", 0, 6, 1, true);
        ends(".data\n.align #", 0, 6, 1, true);
        ends(".comm a, #, 1", 1, 4096, 1, false);
        for (int m = -2; m <= 130; m++) {
            boolean may = m == 1 || m == 2 || m == 4 || m == 8 || m == 16 || m == 32 || m == 64;
            if (may) {
                Check.due("symbols", Check.symbols(Check.good(".comm a, 5, " + m)), "a 5 " + m + " 5 1;");
            } else {
                Check.fault(".comm a, 5, " + m, 15, 12);
            }
        }
        Check.fault(".comm a, 0, 0", 15, 9);
        Check.fault(".comm a, 1, -2147483648", 15, 12);
        for (String v : new String[] {"-2147483648", "2147483647", "4294967295"}) {
            Check.due("symbols", Check.symbols(Check.good(".equ a, " + v)), "a 4 " + (int) Long.parseLong(v) + " 0 0;");
        }
        for (int n = 0; n <= 6; n++) {
            Check.due("alignment", Check.good(".rodata\n.align " + n).object(0, 1, 1), 1 << n);
            Check.due("alignment", Check.good(".align " + n).object(0, 0, 1), Math.max(4, 1 << n));
            Check.due("bytes", Check.good(".align " + n).object(0, 0, 0), Math.max(0, (1 << n) - 2));
            Check.due("bytes", Check.good(".option norvc\n.align " + n).object(0, 0, 0), Math.max(0, (1 << n) - 4));
            Check.due("bytes", Check.good(".bss\n.zero 1\n.align " + n).object(0, 3, 0), 1 << n);
            Check.due("bytes", Check.good(".data\n.zero " + (1 << n) + "\n.align " + n).object(0, 2, 0), 1 << n);
            Check.due("relocations", Check.relocations(Check.good(".data\n.byte 1\n.align " + n)), "");
        }
        // the alignment is the greatest of them
        Check.due("alignment", Check.good(".data\n.align 4\n.align 2").object(0, 2, 1), 16);
    }

    /** Two FAULTS of one STATEMENT: that which is asked first. */
    private static void order() {
        String full = names(100);
        int at = full.length();
        String[][] rows = {
            {".data\nfrob %hi(x)", "9", "6"},
            {".data\nc.nop 5", "10", "6"},
            {".option norvc\n.data\nc.nop", "10", "20"},
            {".byte 1\n.option norvc\nc.nop", "10", "22"},
            {".byte 1\nadd", "10", "8"},
            {".bss\n.byte", "10", "5"},
            {".bss\n.word a0", "10", "5"},
            {".bss\n.ascii 1", "10", "5"},
            {".option norvc\nc.nop 1b", "11", "14"},
            {".option norvc\nc.addi4spn a0, sp, 4", "11", "14"},
            {"addi a0, 1b", "12", "0"},
            {"addi a0, a1, a2, 1b", "12", "0"},
            {"addi 1b, a0, 1/0", "12", "0"},
            {".comm 1b, 1, 1", "12", "0"},
            {".zero 1b, 2", "12", "0"},
            {"addi a0, a1, 1/0 + 1b", "13", "13"},
            {"addi a0, a1, 9999 + 1b", "13", "13"},
            {"addi a0, a1, 1/0", "14", "13"},
            {"addi a0, a1, x + 9999", "14", "13"},
            {"c.li zero, 1b", "15", "5"},
            {"c.addi a0, 1b", "13", "11"},
            {"c.lw t0, 1b(a0)", "15", "5"},
            {"c.beqz a6, 4", "15", "7"},
            {".byte 256, 1b", "15", "6"},
            {".byte 1b, 256", "13", "6"},
            {".byte 1, 1/0, 256", "14", "9"},
            {".byte 1, 256, 1/0", "15", "9"},
            {".comm a, 0, 1b", "15", "9"},
            {".comm a, 1b, 0", "13", "9"},
            {"a: .comm a, 0, 1", "15", "12"},
            {"a: .comm a, 1, 3", "15", "15"},
            {"a: .comm a, 1, 1", "16", "3"},
            {".weak a\n.comm a, 1, 65", "15", "20"},
            {"a: .equ a, 1b", "13", "11"},
            {"a: .equ a, x", "14", "11"},
            {"a: .equ a, 1", "16", "3"},
            {full + ".equ y, 1b", "18", "" + at},
            {full + ".comm y, 0, 0", "18", "" + at},
            {full + ".word y + 1b", "13", "" + (at + 6)},
            {full + ".word 1b, y", "13", "" + (at + 6)},
            {full + ".word y, 1b", "18", "" + at},
            {full + ".word 1/0 + y", "14", "" + (at + 6)},
            {full + ".word y / 0", "18", "" + at},
            {full + ".byte 256, y", "15", "" + (at + 6)},
            {full + ".byte y", "18", "" + at},
            {full + "c.beqz a0, y", "18", "" + at},
            {full + "c.beqz t0, y", "15", "" + (at + 7)},
            {full + ".zero 2048\n.word y", "18", "" + (at + 11)},
            {full + "n1:", "16", "" + at},
            {full + ".globl y", "18", "" + at},
            {full + ".globl y, z", "12", "" + at},
            {".option pop, a", "12", "0"},
            {".option 1b", "12", "0"},
            {".option push\n".repeat(9) + "j 5f", "17", "104"},
            {".zero 2047\n.word 1/0", "14", "17"},
            {".zero 2047\n.word 1, 5b", "13", "20"},
            {".zero 2048\n.half 65536", "15", "17"},
        };
        for (String[] row : rows) {
            Check.fault(row[0], Integer.parseInt(row[1]), Integer.parseInt(row[2]));
        }
    }

    /** Labels, so many, a line of them at a time. */
    private static String names(int n) {
        StringBuilder s = new StringBuilder();
        for (int k = 0; k < n; k++) {
            s.append("n").append(k).append(k % 20 == 19 ? ":\n" : ":");
        }
        return s + "\n";
    }

    /** 9, 10 and 11: for each sort of word. */
    private static void wordsAndSections() {
        String[] instructions = {"lui a0, 1", "add a0, a1, a2", "c.nop", "nop", "li a0, 5", "la a0, x", "call x", "tail x", "ret", "fence", "ecall", "ebreak", "lw a0, x", "sw a0, x, t0", "beqz a0, x", "j x", "jal x", "jalr a0"};
        for (String one : instructions) {
            Check.good(one);
            Check.good(".byte 1\n.byte 2\n" + one);
            Check.good(".half 1\n" + one);
            for (String section : new String[] {".rodata", ".data", ".bss"}) {
                Check.fault(section + "\n" + one, 10, section.length() + 1);
                Check.good(section + "\n.text\n" + one);
            }
            Check.fault(".byte 1\n" + one, 10, 8);
            Check.fault(".byte 1\n.data\n" + one, 10, 14);
            Check.good(".data\n.byte 1\n.text\n" + one);
        }
        for (String one : new String[] {".byte 1", ".half 1", ".word 1", ".ascii \"a\"", ".asciz \"a\"", ".zero 3", ".align 2", ".globl q", ".weak q", ".equ q, 1", ".comm q, 1, 1", ".option rvc", "q:", "1:"}) {
            boolean bytes = one.startsWith(".b") || one.startsWith(".h") || one.startsWith(".wo") || one.startsWith(".as");
            if (bytes) {
                Check.fault(".bss\n" + one, 10, 5);
            } else {
                Check.good(".bss\n" + one);
            }
            Check.good(".byte 1\n" + one);
            Check.good(".rodata\n.byte 1\n" + one);
        }
        for (String none : new String[] {"frob", "Nop", "c.sext", "x0", "hi", ".sect", ".texts", ".tex", "c.", "addi.", "rvc", "lw.", "c.addi4spnn", "fence.i", "csrr", "bgtu."}) {
            Check.fault("nop\n q: " + none + " a0", 9, 8);
        }
        String[] shorts = {"c.addi4spn a0, sp, 4", "c.lw a0, 0(a0)", "c.sw a0, 0(a0)", "c.nop", "c.addi a0, 1", "c.jal x", "c.li a0, 1", "c.addi16sp sp, 16", "c.lui a0, 1", "c.srli a0, 1", "c.srai a0, 1", "c.andi a0, 1",
            "c.sub a0, a0", "c.xor a0, a0", "c.or a0, a0", "c.and a0, a0", "c.j x", "c.beqz a0, x", "c.bnez a0, x", "c.slli a0, 1", "c.lwsp a0, 0(sp)", "c.jr a0", "c.mv a0, a0", "c.ebreak", "c.jalr a0", "c.add a0, a0", "c.swsp a0, 0(sp)"};
        Check.due("short kinds", shorts.length, 27);
        for (String one : shorts) {
            Check.due("bytes of " + one, Check.good(one).object(0, 0, 0), 2);
            Check.fault(".option norvc\n" + one, 11, 14);
            Check.good(".option norvc\n.option rvc\n" + one);
        }
    }

    /** 12: what kinds and directives take. */
    private static void operandsAsTaken() {
        String[] sorts = {"a0", "\"s\"", "(a0)", "4(a0)", "4", "x", "%lo(x)", "%lo(x)(a0)", "%hi(x)", "%pcrel_hi(x)", "%pcrel_lo(x)"};
        // by forms: which of the sorts # can be (1), so that there is no FAULT 12
        String[][] forms = {
            {"add a0, a1, #", "10000000000"}, {"addi a0, a1, #", "00001110001"}, {"slli a0, a1, #", "00001100000"}, {"lw a0, #", "00111101000"}, {"jalr a0, #", "00110001000"},
            {"sw a0, #", "00110001000"}, {"sw a0, #, a1", "00001100000"}, {"lui a0, #", "00001100100"}, {"auipc a0, #", "00001100010"}, {"beq a0, a1, #", "00001100000"}, {"jal a0, #", "00001100000"},
            {"jal #", "00001100000"}, {"jalr #", "10000000000"}, {"jr #", "10000000000"}, {"j #", "00001100000"}, {"call #", "00001100000"}, {"li a0, #", "00001100000"}, {"la a0, #", "00001100000"},
            {"mv a0, #", "10000000000"}, {"beqz a0, #", "00001100000"}, {"c.lw a0, #", "00110000000"}, {"c.j #", "00001100000"}, {"c.li a0, #", "00001100000"}, {"c.lui a0, #", "00001100000"}, {"c.add a0, #", "10000000000"},
            {"nop #", "00000000000"}, {"ret #", "00000000000"}, {"ecall #", "00000000000"}, {"c.nop #", "00000000000"}, {".text #", "00000000000"}, {".globl #", "00000100000"}, {".weak #", "00000100000"},
            {".equ #, 1", "00000100000"}, {".equ q, #", "00001100000"}, {".comm #, 1, 1", "00000100000"}, {".comm q, #, 1", "00001100000"}, {".comm q, 1, #", "00001100000"}, {".byte #", "00001100000"}, {".word 1, #", "00001100000"},
            {".ascii #", "01000000000"}, {".asciz \"\", #", "01000000000"}, {".zero #", "00001100000"}, {".align #", "00001100000"}, {".option #", "00000000000"}};
        for (String[] form : forms) {
            for (int k = 0; k < sorts.length; k++) {
                ChainHouse x = new ChainHouse();
                Check.assemble(x, 0, "y: " + form[0].replace("#", sorts[k]));
                Check.due("FAULT 12 of " + form[0].replace("#", sorts[k]) + " (" + x.fault(0) + ")", x.fault(0) == 12, form[1].charAt(k) == '0');
                Check.due("its PLACE", x.fault(0) == 12 ? x.fault(1) : 3, 3);
            }
        }
        // too few and too many
        String[] whole = {"add a0, a1, a2", "addi a0, a1, 1", "lw a0, 0(a1)", "sw a0, x, t0", "lui a0, 1", "beq a0, a1, x", "j x", "jr a0", "li a0, 1", "la a0, x", "mv a0, a1", "c.li a0, 1", "c.addi16sp sp, 16", "bgt a0, a1, x",
            ".globl x", ".equ x, 1", ".comm x, 1, 1", ".zero 1", ".align 1", ".option rvc"};
        for (String one : whole) {
            Check.good(one);
            Check.fault(one + ", 1", 12, 0);
            Check.fault(one + ", a0", 12, 0);
            boolean fewer = one.indexOf(',') >= 0;
            Check.fault(fewer ? one.substring(0, one.indexOf(',')) : one.substring(0, one.indexOf(' ')), 12, 0);
        }
        for (String one : new String[] {".byte", ".half", ".word", ".ascii", ".asciz", ".option", ".globl", ".weak"}) {
            Check.fault(one, 12, 0);
        }
        for (String one : new String[] {".byte 1", ".half 1", ".word 1", ".ascii \"a\"", ".asciz \"a\""}) {
            Check.good(one);
            Check.good(one + "," + one.substring(one.indexOf(' ')) + "," + one.substring(one.indexOf(' ')));
        }
        for (String one : new String[] {"rvc", "norvc", "relax", "norelax", "push", "(rvc)", "((norelax))"}) {
            Check.good(".option " + one);
        }
        for (String one : new String[] {"rvd", "RVC", "pick", "norvcx", "rv", "1", "-rvc", "rvc + 0", "."}) {
            Check.fault(".option " + one, 12, 0);
        }
        // s is a name alone
        for (String bad : new String[] {".", "1b", "1", "-x", "x+0", "x-x", "(x)+0", "'a'"}) {
            Check.fault("1: .globl " + bad, 12, 3);
            Check.fault("1: .equ " + bad + ", 1", 12, 3);
        }
        for (String bad : new String[] {"x(a0)", "x(sp)", "(x)(a0)", "%hi(x)", "%lo(x)(a0)", "(a0)", "\"x\""}) {
            Check.fault(".globl " + bad, 12, 0);
            Check.fault(".weak " + bad, 12, 0);
            Check.fault(".equ " + bad + ", 1", 12, 0);
            Check.fault(".comm " + bad + ", 1, 1", 12, 0);
            Check.fault(".option " + bad.replace("x", "rvc"), 12, 0);
        }
        Check.good(".globl (x)\n.weak ((x))\n.equ (((y))), 1\n.comm (z), 1, 1");
    }

    /** 18: 100 symbols may be, 101 not, wherever the last one comes from. */
    private static void symbolRoom() {
        String full = names(99);
        int at = full.length();
        String[] last = {"y:", "1:", ".word y", ".word .", ".word 1f\n1:", ".globl y", ".weak y", ".equ y, 1", ".comm y, 1, 1", "j y", "lw a0, n1", "la a0, n1", "sw a0, n1, t0", "lui a0, %hi(y)", "beqz a0, y", "call y"};
        for (String one : last) {
            Check.due("symbols", Check.good(full + one).object(4, 0, 1), 100);
            Check.fault(full + "z: " + one, 18, at + 3);
        }
        Check.fault(full + "la a0, y", 18, at);
        Check.fault(full + ".word ., y", 18, at);
        Check.good(full + ".word ., ., . + 4");
        Check.good(full + "y: .option rvc\n.word y, n5");
        Check.fault(full + "1: 1:", 18, at + 3);
    }

    /** 18: 300 relocations may be, 301 not: so many words of 1, then what brings some more. */
    private static void relocationRoom() {
        String[] more = {"j x", ".word x", ".align 3", "call x", "la a0, x", "lw a0, x", "sw a0, x, t0", "lui a0, %hi(x)", ".word x - y", ".byte x - y", ".half x - y", "c.beqz a0, x", "addi a0, a0, %lo(x)", "auipc a0, %pcrel_hi(x)", "sw a0, %lo(x)(a0)"};
        int[] counts = {1, 1, 1, 2, 4, 4, 4, 2, 2, 2, 2, 1, 2, 2, 2};
        int[] plain = {1, 1, 1, 1, 2, 2, 2, 1, 2, 2, 2, 1, 1, 1, 1};
        for (int k = 0; k < more.length; k++) {
            for (int relax = 0; relax < 2; relax++) {
                int count = relax == 1 ? counts[k] : plain[k];
                String head = (relax == 1 ? "" : ".option norelax\n") + ".globl y\n.data\n";
                String tail = "\n.text\n" + more[k];
                Check.due("relocations of " + more[k], Check.good(head + words(300 - count) + tail).object(4, 0, 2), 300);
                String text = head + words(301 - count) + "\n.text\n" + more[k];
                Check.fault(text, 18, text.length() - more[k].length());
            }
        }
    }

    private static String words(int n) {
        StringBuilder s = new StringBuilder();
        for (int k = 0; k < n; k++) {
            s.append(k % 100 == 0 ? "\n.word x" : ",x");
        }
        return s.substring(1);
    }

    /** 18: 2048 bytes of .text, .rodata and .data, and 4096 of .bss may be, one more not. */
    private static void byteRoom() {
        String[] one = {".byte 1", ".half 1", ".word 1", ".ascii \"abc\"", ".asciz \"abc\"", ".asciz \"\"", ".zero 5", ".byte 1,2,3", ".ascii \"a\",\"\",\"b\"", ".word x", ".word x - y", ".half x - y", ".byte x - y"};
        int[] bytes = {1, 2, 4, 3, 4, 1, 5, 3, 2, 4, 4, 2, 1};
        for (String section : new String[] {".text", ".rodata", ".data"}) {
            for (int k = 0; k < one.length; k++) {
                String head = section + "\n.zero ";
                ChainHouse x = Check.good(head + (2048 - bytes[k]) + "\n" + one[k]);
                Check.due("bytes", x.object(0, section.equals(".text") ? 0 : section.equals(".rodata") ? 1 : 2, 0), 2048);
                Check.fault(head + (2049 - bytes[k]) + "\n" + one[k], 18, head.length() + ("" + (2049 - bytes[k])).length() + 1);
            }
            Check.good(section + "\n.zero 2048\n.zero 0\n.ascii \"\"\n.align 0");
            Check.fault(section + "\n.zero 2049", 18, section.length() + 1);
        }
        String[] instructions = {"c.nop", "nop", "fence", "j x", "call x", "la a0, x", "li a0, 0x12345678", "li a0, 5", "lw a0, x", ".align 2", ".align 3", ".align 6"};
        int[] lengths = {2, 2, 4, 4, 8, 8, 8, 2, 8, 2, 6, 62};
        for (int k = 0; k < instructions.length; k++) {
            Check.due("bytes", Check.good(".zero " + (2048 - lengths[k]) + "\n" + instructions[k]).object(0, 0, 0), 2048);
            Check.fault(".zero " + (2050 - lengths[k]) + "\n" + instructions[k], 18, 11);
        }
        Check.good(".bss\n.zero 4096");
        Check.good(".bss\n.zero 4095\n.zero 1\n.zero 0\n.align 6");
        Check.fault(".bss\n.zero 4096\n.zero 1", 18, 16);
        Check.fault(".bss\n.zero 4095\n.zero 2", 18, 16);
        Check.good(".bss\n.zero 4033\n.align 6");
        Check.good(".data\n.zero 1985\n.align 6");
        Check.good(".data\n.zero 2047\n.align 1\n.align 6");
        Check.fault(".data\n.zero 2047\n.align 1\n.byte 1", 18, 26);
        Check.good(".option norvc\n.zero 2044\n.align 3");
        Check.fault(".option norvc\n.zero 2046\n.align 3", 18, 25);
    }

    /** 20: a FILE of 8192 bytes may be, a greater one not, at the TEXT's length, behind all other FAULTS. */
    private static void fileRoom() {
        // three full sections, and .rela.text of 12 bytes each
        String head = ".zero %d\n.data\n.zero 2048\n.rodata\n.zero 2048\n.text\n";
        int smallest = 0;
        boolean exact = false;
        for (int n = 110; n < 160; n++) {
            String text = String.format(head, 2048 - 4 * n) + words(n) + "\n#";
            ChainHouse x = new ChainHouse();
            int size = Check.assemble(x, 0, text);
            if (size == Check.ARGUMENT) {
                smallest = n;
                Check.due("fault(0)", x.fault(0), 20);
                Check.due("fault(1)", x.fault(1), text.length());
                break;
            }
            Check.due("a FILE of at most 8192 bytes", size <= 8192, true);
            exact = exact || size == 8192;
        }
        Check.due("one had 8192 bytes", exact, true);
        exact = false;
        Check.due("there is one that is too great", smallest > 110, true);
        // names make the FILE longer by single bytes; its TABLE begins at a multiple of 4
        for (int length = 1; length <= 16; length++) {
            for (int other = 0; other <= 16; other++) {
                String text = String.format(head, 2048 - 4 * (smallest - 4)) + words(smallest - 4) + "\n.globl " + "z".repeat(length) + (other == 0 ? "" : "\n.weak " + "y".repeat(other)) + "\n";
                ChainHouse x = new ChainHouse();
                int size = Check.assemble(x, 0, text);
                exact = exact || size == 8192;
                if (size == Check.ARGUMENT) {
                    Check.due("fault(0)", x.fault(0), 20);
                    Check.due("fault(1)", x.fault(1), text.length());
                    Check.due("no FILE", x.size(0), 0);
                    Check.due("another FAULT is ahead of it", Check.assemble(x, 0, text + ".zero 1f - 1f"), Check.ARGUMENT);
                    Check.due("fault(0)", x.fault(0), 19);
                    Check.due("fault(1)", x.fault(1), text.length() + 6);
                } else {
                    Check.due("a FILE of at most 8192 bytes", size <= 8192 && size > 8100, true);
                    Check.due("size", x.size(0), size);
                    Check.due("check", x.check(0), 0);
                }
            }
        }
        Check.due("one had 8192 bytes", exact, true);
    }

    /** 17: eight pushes are kept, each pop takes the latest one. */
    private static void options() {
        String push = ".option push\n";
        String pop = ".option pop\n";
        Check.good(push.repeat(8));
        Check.fault(push.repeat(8) + " " + push, 17, 8 * push.length() + 1);
        Check.fault(pop, 17, 0);
        Check.fault(push + pop + pop, 17, push.length() + pop.length());
        Check.good(push.repeat(8) + pop + push + pop.repeat(8));
        Check.fault(push.repeat(8) + pop + push + push, 17, 9 * push.length() + pop.length());
        Check.fault(push.repeat(8) + pop.repeat(9), 17, 8 * push.length() + 8 * pop.length());
        // eight that are all different from what follows
        StringBuilder s = new StringBuilder();
        for (int k = 0; k < 8; k++) {
            s.append(".option ").append((k & 1) == 0 ? "rvc" : "norvc").append("\n.option ").append((k & 2) == 0 ? "relax" : "norelax").append("\n").append(push);
        }
        for (int k = 0; k < 8; k++) {
            s.append(pop).append("nop\ncall x\n");
        }
        ChainHouse x = Check.good(s.toString());
        StringBuilder starts = new StringBuilder();
        int at = 0;
        int relocations = 0;
        for (int k = 7; k >= 0; k--) {
            starts.append(at).append(' ');
            at += (k & 1) == 0 ? 2 : 4;
            starts.append(at).append(' ');
            at += 8;
            relocations += (k & 2) == 0 ? 2 : 1;
        }
        Check.due("starts", Check.starts(x), starts.toString().trim());
        Check.due("relocations", x.object(4, 0, 2), relocations);
    }

    /** 16: what DEFINES a symbol twice, in each order. */
    private static void definitions() {
        String[] ways = {"a:", ".equ a, 1", ".comm a, 1, 1"};
        for (String first : ways) {
            for (String second : ways) {
                Check.fault(first + "\n nop\n" + second, 16, first.length() + 6);
            }
            Check.good(".globl a\n" + first + "\n.globl a");
            Check.good(".word a\n" + first);
        }
        Check.good(".weak a\na:");
        Check.good(".weak a\n.equ a, 1");
        Check.good("a:\n.weak a");
        Check.good(".equ a, 1\n.weak a");
        Check.fault(".weak a\n.comm a, 1, 1", 16, 8);
        Check.fault(".comm a, 1, 1\n.weak a", 16, 14);
        Check.fault(".weak a\na:\n.comm a, 1, 1", 16, 11);
        Check.good(".weak a\n.globl a\n.comm a, 1, 1\n.globl a");
        Check.fault(".globl a\n.weak a\n.comm a, 1, 1", 16, 17);
        Check.good("1: 1: 1:");
        Check.due("the later one counts", Check.symbols(Check.good("a:\n.globl a\n.weak a\n.globl a")), "a 0 0 0 1;");
        Check.due("the later one counts", Check.symbols(Check.good("a:\n.weak a\n.globl a\n.weak a")), "a 0 0 0 2;");
        Check.due("not DEFINED", Check.symbols(Check.good(".word a\n.weak b\n.globl c\n.word b - c")), "a -1 0 0 1; b -1 0 0 2; c -1 0 0 1;");
    }

    /** 13 and 19. */
    private static void locals() {
        Check.fault("j 1b\n1:", 13, 2);
        Check.fault("1: j 2b", 13, 5);
        Check.good("1: j 1b");
        Check.good("j 1f\n1:");
        Check.good("1: j 1f\n1: j 1b");
        Check.fault("1: j 1f", 19, 5);
        Check.fault("j 1f\n1: j 1f", 19, 10);
        Check.fault("j 9f\nj 8f\n8:", 19, 2);
        Check.fault("j 9f\nj 8f\n9:", 19, 7);
        Check.fault("nop\nj 3f + 4\nj 3f", 19, 6);
        Check.fault(".word 1, 2, 5f, 4f\n", 19, 12);
        Check.fault(".word 1, 2, 5f, 4f\n5:", 19, 16);
        Check.fault("lw a0, %lo(5f)(a0)", 19, 7);
        Check.fault(".word 5f - 4f\n4:", 19, 6);
        // of one operand
        Check.fault(".word 4f - 5f\n4:", 19, 6);
        // of several the first, whatever their digits
        for (String three : new String[] {"4f, 5f, 6f", "6f, 5f, 4f", "5f, 4f, 6f", "5f, 6f, 4f", "4f, 6f, 5f", "6f, 4f, 5f"}) {
            Check.fault(".word " + three, 19, 6);
            Check.fault(".word " + three + "\n" + three.charAt(0) + ":", 19, 10);
            Check.fault(".word " + three + "\n" + three.charAt(0) + ": " + three.charAt(4) + ":", 19, 14);
            Check.good(".word " + three + "\n4: 5: 6:");
        }
        // which label is meant
        ChainHouse x = Check.good("1: nop\n1: nop\n.word 1b - ., 1f - .\n1: nop\n1:\n.word 1b - .");
        Check.due("relocations", Check.relocations(x), "0 4 35 1 0; 0 4 39 2 0; 0 8 35 3 0; 0 8 39 2 0; 0 14 35 4 0; 0 14 39 5 0;");
        Check.due("symbols", Check.symbols(x), "$0 0 0 0 0; $1 0 2 0 0; $2 0 4 0 0; $3 0 12 0 0; $4 0 14 0 0; $5 0 14 0 0;");
    }

    /** HIDDEN symbols are numbered $0 to $99 as they come. */
    private static void hidden() {
        ChainHouse x = Check.good("1:".repeat(100));
        for (int k = 0; k < 100; k++) {
            Check.due("length of a name", x.object(2, k, 5), k < 10 ? 2 : 3);
            Check.due("$", x.object(2, k, 6), '$');
            Check.due("a digit", x.object(2, k, 7), k < 10 ? '0' + k : '0' + k / 10);
            Check.due("a digit", x.object(2, k, 8), k < 10 ? -1 : '0' + k % 10);
        }
        Check.fault("1:".repeat(101), 18, 200);
        Check.due("one for a STATEMENT", Check.symbols(Check.good(".data\n.byte 1\n.word ., . + 1, . - x")), "$0 2 1 0 0; x -1 0 0 1;");
        Check.due("one for each STATEMENT", Check.symbols(Check.good(".word .\n.word .")), "$0 0 0 0 0; $1 0 4 0 0;");
        Check.due("la needs its own at last", Check.symbols(Check.good("nop\nla a0, x\nla a1, .")), "$0 0 2 0 0; $1 0 10 0 0; x -1 0 0 1;");
        Check.due("none is needed", Check.symbols(Check.good("nop\ncall x\nlui a0, %hi(x)")), "x -1 0 0 1;");
        Check.due("HERE ahead of what the STATEMENT puts there", Check.symbols(Check.good(".bss\n.zero 7\n.zero 3 + . - .")), "$0 3 7 0 0;");
        Check.due("a label's is that of the LOCAL ahead", Check.symbols(Check.good(".word 2f, 1f\n1: 2: 1:")), "$0 0 8 0 0; $1 0 8 0 0; $2 0 8 0 0;");
    }

    /** VALUES: PLAIN, PLACED, a DISTANCE, none. */
    private static void values() {
        String[][] rows = {
            {"a + b", "14"}, {"-a - b", "14"}, {"a - b - b", "14"}, {"a - b + a", "14"}, {"(a - b) - (b - a)", "14"}, {"a - a + b", "0"}, {"a + (b - b)", "0"}, {"a - b + b", "14"}, {"b - (b - a)", "14"}, {"-(-a)", "0"},
            {"-a", "14"}, {"5 - a", "14"}, {"~a", "14"}, {"a * 1", "14"}, {"1 * a", "14"}, {"a / 1", "14"}, {"a % 5", "14"}, {"a << 0", "14"}, {"a >> 0", "14"}, {"a & -1", "14"}, {"a | 0", "14"}, {"a ^ 0", "14"},
            {"-a * 1", "14"}, {"1 * -a", "14"}, {"~-a", "14"}, {"(1 - a) << 1", "14"}, {"1 >> -a", "14"}, {"-a & 1", "14"}, {"-a / 1", "14"}, {"-a + a", "0"}, {"5 - a + a", "0"}, {"-a + b", "0"}, {"0 | a", "14"}, {"(a - a) * 3", "0"}, {"(a - b) * 0", "14"}, {"~(a - a)", "0"}, {"a + 5 - 7", "0"}, {". - .", "0"}, {". + .", "14"}, {"-. + a", "0"}, {"1 / (a - a)", "14"}, {"a - c - a", "14"}, {"a - a - c", "14"}};
        for (String[] row : rows) {
            String text = ".data\n.word " + row[0];
            if (row[1].equals("0")) {
                Check.good(text);
            } else {
                Check.fault(text, 14, 12);
            }
        }
        String[] both = {"a - b", "a - b + 4", "b - a"};
        for (String distance : both) {
            for (String form : new String[] {".zero #", ".equ q, #", ".align #", "li a0, #", "la a0, #", "lw a0, #", "j #", "call #", "lui a0, %hi(#)", "addi a0, a0, %lo(#)", "auipc a0, %pcrel_hi(#)", "addi a0, a0, %pcrel_lo(#)", "addi a0, a0, #", "lw a0, #(a0)"}) {
                String text = form.replace("#", distance);
                int at = form.indexOf('%') >= 0 ? form.indexOf('%') : form.indexOf('#');
                Check.fault(text, 14, at);
            }
        }
        for (String form : new String[] {".zero #", ".equ q, #", ".align #", "li a0, #", "addi a0, a0, #", "lw a0, #(a0)", "lui a0, #", "slli a0, a0, #", "c.li a0, #", ".comm q, #, 1", ".comm q, 1, #", ".byte #", ".half #"}) {
            Check.fault(form.replace("#", "a"), 14, form.indexOf('#'));
            Check.fault(form.replace("#", "a + 1"), 14, form.indexOf('#'));
            Check.good(form.replace("#", "a - a + 1"));
        }
        for (String form : new String[] {"j #", "jal #", "jal a0, #", "beq a0, a1, #", "beqz a0, #", "c.j #", "c.beqz a0, #", "call #", "tail #", "lw a0, #", "sw a0, #, t0", "auipc a0, %pcrel_hi(#)", "addi a0, a0, %pcrel_lo(#)"}) {
            int at = form.indexOf('%') >= 0 ? form.indexOf('%') : form.indexOf('#');
            Check.fault(form.replace("#", "4"), 14, at);
            Check.fault(form.replace("#", "a - a"), 14, at);
            Check.good(form.replace("#", "a"));
        }
        for (String mark : new String[] {"addi a0, a0, %pcrel_lo(#)", "lw a0, %pcrel_lo(#)(a0)", "sb a0, %pcrel_lo(#)(a0)", "jalr a0, %pcrel_lo(#)(a0)"}) {
            Check.fault(mark.replace("#", "a + 1"), 14, mark.indexOf('%'));
            Check.fault(mark.replace("#", "a - 1"), 14, mark.indexOf('%'));
            Check.good(mark.replace("#", "a + 1 - 1"));
        }
        // what .equ has DEFINED ahead is its number, in its own STATEMENT and ahead it is a symbol
        Check.good(".equ a, 5\n.zero a");
        Check.fault(".zero a\n.equ a, 5", 14, 6);
        Check.fault(".equ a, a", 14, 8);
        Check.fault(".comm a, 1, 1\n.zero a", 14, 20);
    }

    /** Each TEXT is assembled from nothing. */
    private static void again() {
        ChainHouse x = new ChainHouse();
        Check.assemble(x, 0, ".option push\n.option push\n.option norvc\n.option norelax\n.data\n.align 6\n.byte 1\n.rodata\n.align 5\n.bss\n.align 4\n.zero 9\n.text\n.align 6\n1: j 1b\nq: .equ k, 5\n.comm c, 1, 1\n.weak w");
        Check.due("no FAULT", x.fault(0), 0);
        Check.due("pop of what another TEXT has pushed", Check.assemble(x, 1, ".option pop"), Check.ARGUMENT);
        Check.due("fault(0)", x.fault(0), 17);
        Check.due("a label of another TEXT", Check.assemble(x, 1, "j 1b"), Check.ARGUMENT);
        Check.due("fault(0)", x.fault(0), 13);
        Check.due("a number of another TEXT", Check.assemble(x, 1, ".zero k"), Check.ARGUMENT);
        Check.due("fault(0)", x.fault(0), 14);
        Check.due("assemble", Check.assemble(x, 1, "q: nop\ncall c\n1: .equ w, 3\n.globl w\n.comm k, 1, 1") > 0, true);
        Check.due("check", x.check(1), 0);
        Check.due("symbols", Check.symbols(x), "q 0 0 0 0; $0 0 10 0 0; c -1 0 0 1; w 4 3 0 1; k 5 1 1 1;");
        Check.due("relocations", Check.relocations(x), "0 2 19 2 0; 0 2 51 -1 0;");
        Check.due("starts", Check.starts(x), "0 2");
        int[] alignments = {4, 1, 1, 1};
        int[] bytes = {10, 0, 0, 0};
        for (int k = 0; k < 4; k++) {
            Check.due("alignment", x.object(0, k, 1), alignments[k]);
            Check.due("bytes", x.object(0, k, 0), bytes[k]);
        }
        // a LOCAL with f that another TEXT has left open
        Check.due("assemble", Check.assemble(x, 2, "j 3f"), Check.ARGUMENT);
        Check.due("fault(0)", x.fault(0), 19);
        Check.due("assemble", Check.assemble(x, 2, "nop\n3: nop") > 0, true);
        Check.due("check", x.check(2), 0);
        Check.due("symbols", Check.symbols(x), "$0 0 2 0 0;");
        // the FILE of a unit stays with a FAULT, to the byte
        int n = x.size(2);
        int sum = 0;
        for (int k = 0; k < 100; k++) {
            sum = 31 * sum + x.byteAt(2, k);
        }
        Check.due("assemble", Check.assemble(x, 2, "nop\nnop\nfrob"), Check.ARGUMENT);
        Check.due("size", x.size(2), n);
        int now = 0;
        for (int k = 0; k < 100; k++) {
            now = 31 * now + x.byteAt(2, k);
        }
        Check.due("the bytes", now, sum);
    }
}
