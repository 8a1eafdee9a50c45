/** Promises 4 and 5, and section 7: statements, symbols, values, relocations, and the faults 9 to 20. */
public final class AssembleTest {
    public static void main(String[] args) {
        calls();
        symbols();
        values();
        sections();
        dataDirectives();
        align();
        options();
        kinds();
        marks();
        others();
        pairs();
        statementFaults();
        operandFaults();
        laterFaults();
        roomFaults();
        Check.end();
    }

    private static void calls() {
        ChainHouse x = new ChainHouse();
        Check.due("assemble of nothing", Check.assemble(x, 2, ""), x.size(2));
        Check.due("size", x.size(2) > 0, true);
        Check.due("assemble(-1)", Check.assemble(x, -1, "frob"), Check.INDEX);
        Check.due("fault(0): no TEXT was taken", x.fault(0), 0);
        Check.due("assemble(6)", Check.assemble(x, 6), Check.INDEX);
        Check.due("the TEXT stays", x.end(0), 4);
        Check.due("assemble(2)", Check.assemble(x, 2), Check.ARGUMENT);
        Check.due("fault(0)", x.fault(0), 9);
        Check.due("fault(1)", x.fault(1), 0);
        Check.due("fault(2)", x.fault(2), -1);
        Check.due("fault(-1)", x.fault(-1), -1);
        Check.due("the TEXT is empty", x.end(0), 0);
        Check.due("the FILE stays", x.size(2) > 0, true);
        int n = x.size(2);
        Check.due("assemble(2)", Check.assemble(x, 2, "nop\nnop\n"), x.size(2));
        Check.due("the FILE is another", x.size(2) > n, true);
        Check.due("fault(0)", x.fault(0), 0);
        Check.due("fault(1)", x.fault(1), -1);
    }

    private static void due(String text, String symbols, String relocations) {
        ChainHouse x = Check.good(text);
        Check.due("symbols of " + text, Check.symbols(x), symbols);
        Check.due("relocations of " + text, Check.relocations(x), relocations);
    }

    private static void symbols() {
        due("b: a: nop\nc:\n.globl a\n.weak d\n.globl e", "b 0 0 0 0; c 0 2 0 0; a 0 0 0 1; d -1 0 0 2; e -1 0 0 1;", "");
        due(".word x, y, x", "x -1 0 0 1; y -1 0 0 1;", "0 0 1 0 0; 0 4 1 1 0; 0 8 1 0 0;");
        due(".globl a\n.weak a\na:", "a 0 0 0 2;", "");
        due("abcdefgh: abcdefghi: abcdefghijklmnop: .abcdefghijklmno: nop\n.globl abcdefghijklmno", "abcdefgh 0 0 0 0; abcdefghi 0 0 0 0; abcdefghijklmnop 0 0 0 0; .abcdefghijklmno 0 0 0 0; abcdefghijklmno -1 0 0 1;", "");
        due(".weak a\n.globl a\n.comm a, 12, 4", "a 5 4 12 1;", "");
        due(".comm a, 4096, 64", "a 5 64 4096 1;", "");
        due(".equ a, -5\n.globl a\n.equ b, 7", "b 4 7 0 0; a 4 -5 0 1;", "");
        due(".data\n.zero 3\na:\n.bss\n.zero 9\nb:\n.rodata\nc:", "a 2 3 0 0; b 3 9 0 0; c 1 0 0 0;", "");
        // hidden ones, as they come
        due("1: 2: 1:", "$0 0 0 0 0; $1 0 0 0 0; $2 0 0 0 0;", "");
        ChainHouse many = Check.good("1: ".repeat(12) + "2:");
        String all = Check.symbols(many);
        Check.due("the last hidden ones", all.substring(all.indexOf("$9")), "$9 0 0 0 0; $10 0 0 0 0; $11 0 0 0 0; $12 0 0 0 0;");
        due(".word 2f, 1f, 2f\n1: 2: 2: .word 2b, ., 1b", "$0 0 12 0 0; $1 0 12 0 0; $2 0 12 0 0; $3 0 12 0 0;",
            "0 0 1 0 0; 0 4 1 1 0; 0 8 1 0 0; 0 12 1 2 0; 0 16 1 3 0; 0 20 1 1 0;");
        due(".word ., . + 4, x", "$0 0 0 0 0; x -1 0 0 1;", "0 0 1 0 0; 0 4 1 0 4; 0 8 1 1 0;");
        due(".bss\n.zero 5\n.equ q, . - .\n.data\n.word q + 1", "q 4 0 0 0; $0 3 5 0 0;", "");
    }

    private static void values() {
        due(".data\n.word a + 4, 4 + a, a - 4, -4 + a, (a), -(-a)", "a -1 0 0 1;",
            "2 0 1 0 4; 2 4 1 0 4; 2 8 1 0 -4; 2 12 1 0 -4; 2 16 1 0 0; 2 20 1 0 0;");
        due(".data\n.word a - b + 3, 3 - b + a, -(b - a)", "a -1 0 0 1; b -1 0 0 1;",
            "2 0 35 0 3; 2 0 39 1 0; 2 4 35 0 3; 2 4 39 1 0; 2 8 35 0 0; 2 8 39 1 0;");
        ChainHouse x = Check.good(".data\n.word a - a + 7, 1 - (a - a)");
        Check.due("what is added and taken off goes", Check.bytes(x, 2), "0700000001000000");
        Check.fault(".data\n.word (a + b) - b", 14, 12);
        Check.fault(".data\n.word a - b - c", 14, 12);
        Check.fault(".data\n.word a - b - (b - a)", 14, 12);
        Check.fault(".data\n.word 1, a * 2", 14, 15);
        Check.fault(".data\n.word ~a", 14, 12);
        Check.fault(".data\n.word 1 << a", 14, 12);
        Check.fault(".data\n.word -a", 14, 12);
        Check.fault(".data\n.word 1 - a", 14, 12);
        x = Check.good(".equ k, 5\n.data\n.byte k * 2, (a - a) * 3 + k\n.word j\n.equ j, 9\n.word j");
        Check.due("what .equ has defined ahead is a number", Check.bytes(x, 2), "0a050000000009000000");
        Check.due("and is not behind", Check.relocations(x), "2 2 1 1 0;");
        Check.fault(".equ k, 5\n.equ k, 5", 16, 10);
        Check.fault(".equ k, k", 14, 8);
        Check.fault(".equ k, x + 1", 14, 8);
    }

    private static void sections() {
        ChainHouse x = Check.good("nop\n.data\n.byte 1\n.rodata\n.byte 2,3\n.bss\n.zero 5\n.text\nnop\n.data\n.byte 4");
        Check.due(".text", Check.bytes(x, 0), "01000100");
        Check.due(".rodata", Check.bytes(x, 1), "0203");
        Check.due(".data", Check.bytes(x, 2), "0104");
        Check.due(".bss", x.object(0, 3, 0), 5);
        int[] alignments = {4, 1, 1, 1};
        for (int k = 0; k < 4; k++) {
            Check.due("alignment", x.object(0, k, 1), alignments[k]);
        }
        Check.due("starts", Check.starts(x), "0 2");
        Check.fault(".text 1", 12, 0);
        Check.fault("nop\n .bss a", 12, 5);
    }

    private static void dataDirectives() {
        ChainHouse x = Check.good(".data\n.byte -128, 255, 'a'\n.half -32768, 65535\n.word -1, 0x80000000\n.zero 2\n.zero 0");
        Check.due("bytes", Check.bytes(x, 2), "80ff61" + "0080ffff" + "ffffffff00000080" + "0000");
        Check.fault(".byte 1, -129", 15, 9);
        Check.fault(".byte 256", 15, 6);
        Check.fault(".half -32769", 15, 6);
        Check.fault(".half 65536", 15, 6);
        Check.fault(".byte a", 14, 6);
        Check.fault(".half a + 1", 14, 6);
        Check.fault(".byte", 12, 0);
        Check.fault(".word a0", 12, 0);
        Check.fault(".word (a0)", 12, 0);
        Check.fault(".word %lo(a)", 12, 0);
        Check.fault(".word \"a\"", 12, 0);
        Check.fault(".ascii", 12, 0);
        Check.fault(".ascii 5", 12, 0);
        Check.fault(".asciz \"a\", b", 12, 0);
        for (String d : new String[] {".byte 1", ".half 1", ".word 1", ".ascii \"\"", ".asciz \"\"", ".byte"}) {
            Check.fault(".bss\n" + d, 10, 5);
        }
        due(".byte a - b\n.half a - b + 1\n.word b - a", "a -1 0 0 1; b -1 0 0 1;",
            "0 0 33 0 0; 0 0 37 1 0; 0 1 34 0 1; 0 1 38 1 0; 0 3 35 1 0; 0 3 39 0 0;");
        Check.fault(".zero 4097", 15, 6);
        Check.fault(".zero -1", 15, 6);
        Check.fault(".zero a", 14, 6);
        Check.fault(".zero", 12, 0);
        Check.fault(".zero 1, 2", 12, 0);
        for (String bad : new String[] {"0, 1", "4097, 1", "-1, 1"}) {
            Check.fault(".comm a, " + bad, 15, 9);
        }
        for (String bad : new String[] {"0", "3", "128", "-1"}) {
            Check.fault(".comm a, 1, " + bad, 15, 12);
        }
        Check.fault(".comm 1, 1, 1", 12, 0);
        Check.fault(".comm a, 1", 12, 0);
        Check.fault(".comm a, b, 99", 14, 9);
        Check.fault(".globl", 12, 0);
        Check.fault(".globl a, b", 12, 0);
        Check.fault(".globl 1", 12, 0);
        Check.fault(".globl a + 0", 12, 0);
        Check.fault(".globl .", 12, 0);
        Check.fault(".globl 1b", 12, 0);
        Check.fault(".weak a0", 12, 0);
        due(".globl (a)\n.weak ((b))\n.equ (c), 1", "c 4 1 0 0; a -1 0 0 1; b -1 0 0 2;", "");
    }

    private static void align() {
        due(".align 1\nnop\n.align 2\nnop\n.align 4", "", "0 2 43 -1 2; 0 6 43 -1 14;");
        ChainHouse x = Check.good(".byte 1\n.align 3\n.align 0");
        Check.due("bytes", Check.bytes(x, 0), "01" + "13000000" + "0100");
        Check.due("alignment", x.object(0, 0, 1), 8);
        Check.due("starts", Check.starts(x), "");
        x = Check.good(".option norvc\n.align 2\n.align 3\n.align 4");
        Check.due("bytes", Check.bytes(x, 0), "13000000" + "130000001300000013000000");
        Check.due("relocations", Check.relocations(x), "0 0 43 -1 4; 0 4 43 -1 12;");
        x = Check.good(".data\n.byte 1\n.align 2\n.byte 2\n.align 1\n.bss\n.zero 3\n.align 6\n.rodata\n.align 5");
        Check.due("bytes", Check.bytes(x, 2), "010000000200");
        Check.due(".bss", x.object(0, 3, 0), 64);
        Check.due("alignment", x.object(0, 2, 1), 4);
        Check.due("alignment", x.object(0, 3, 1), 64);
        Check.due("alignment", x.object(0, 1, 1), 32);
        Check.due("relocations", Check.relocations(x), "");
        Check.fault(".align 7", 15, 7);
        Check.fault(".align -1", 15, 7);
        Check.fault(".align", 12, 0);
    }

    private static void options() {
        ChainHouse x = Check.good("add a0,a0,a1\n.option push\n.option norvc\nadd a0,a0,a1\n.option pop\nadd a0,a0,a1\n.option norvc\n.option rvc\nadd a0,a0,a1");
        Check.due("bytes", Check.bytes(x, 0), "2e95" + "3305b500" + "2e95" + "2e95");
        due("call f\n.option norelax\ncall f\n.option push\n.option relax\ncall f\n.option pop\ncall f", "f -1 0 0 1;",
            "0 0 19 0 0; 0 0 51 -1 0; 0 8 19 0 0; 0 16 19 0 0; 0 16 51 -1 0; 0 24 19 0 0;");
        x = Check.good(".option norvc\n.option push\n.option rvc\n.option norelax\n.option pop\nadd a0,a0,a1\ncall f");
        Check.due("bytes", Check.bytes(x, 0), "3305b500" + "97000000e7800000");
        Check.due("relocations", Check.relocations(x), "0 4 19 0 0; 0 4 51 -1 0;");
        x = Check.good(".option norelax\n.option push\n.option norvc\n.option relax\n.option pop\nadd a0,a0,a1\ncall f");
        Check.due("bytes", Check.bytes(x, 0), "2e95" + "97000000e7800000");
        Check.due("relocations", Check.relocations(x), "0 2 19 0 0;");
        String push = ".option push\n".repeat(8);
        Check.good(push + ".option pop\n".repeat(8));
        Check.fault(push + ".option push", 17, push.length());
        Check.fault(push + ".option pop\n".repeat(8) + ".option pop", 17, push.length() + 96);
        Check.fault(".option pop", 17, 0);
        Check.fault(".option foo", 12, 0);
        Check.fault(".option", 12, 0);
        Check.fault(".option rvc, rvc", 12, 0);
        Check.fault(".option 1", 12, 0);
        due(".option (relax)", "", "");
    }

    /** The bytes of an instruction, that has no relocation. */
    private static void word(String text, String bytes) {
        ChainHouse x = Check.good(text);
        Check.due("bytes of " + text, Check.bytes(x, 0), bytes);
        Check.due("relocations of " + text, Check.relocations(x), "");
        Check.due("starts of " + text, Check.starts(x), "0");
    }

    private static void kinds() {
        word("lui a0, 0xfffff", "7d75");
        word("auipc a0, 1", "17150000");
        word("jalr a0, 4(a1)", "67854500");
        word("lw a0, (a1)", "8841");
        word("lw a0, -4(a1)", "03a5c5ff");
        word("sb a0, 5(a1)", "a382a500");
        word("c.lw a0, 4(a1)", "c841");
        word("c.sw a0, 4(a1)", "c8c1");
        word("c.lwsp a0, 4(sp)", "1245");
        word("c.swsp zero, 4(x2)", "02c2");
        word("c.addi4spn a0, sp, 8", "2800");
        word("c.addi16sp x2, -32", "3d71");
        word("c.mv a0, a1", "2e85");
        word("c.jr a0", "0285");
        word("c.jalr a0", "0295");
        word("c.ebreak", "0290");
        word("c.nop", "0100");
        word("c.lui a0, 0xfffe1", "0575");
        word("srai a0, a1, 31", "13d5f541");
        due("beq a0, a1, x", "x -1 0 0 1;", "0 0 16 0 0;");
        due("bgeu a0, a1, x + 4", "x -1 0 0 1;", "0 0 16 0 4;");
        due("jal a0, x", "x -1 0 0 1;", "0 0 17 0 0;");
        due("c.jal x\nc.j x - 2\nc.beqz a0, x\nc.bnez a0, x", "x -1 0 0 1;", "0 0 45 0 0; 0 2 45 0 -2; 0 4 44 0 0; 0 6 44 0 0;");
        due("j .", "$0 0 0 0 0;", "0 0 17 0 0;");
    }

    private static void marks() {
        due("lui a0, %hi(x + 4)\naddi a0, a0, %lo(x + 4)\nsw a1, %lo(x)(a0)\nlw a1, %lo(x)(a0)\njalr a0, %lo(x)(a0)", "x -1 0 0 1;",
            "0 0 26 0 4; 0 0 51 -1 0; 0 4 27 0 4; 0 4 51 -1 0; 0 8 28 0 0; 0 8 51 -1 0; 0 12 27 0 0; 0 12 51 -1 0; 0 16 27 0 0; 0 16 51 -1 0;");
        due("1: auipc a0, %pcrel_hi(x)\nandi a0, a0, %pcrel_lo(1b)\nsh a0, %pcrel_lo(1b)(a1)", "$0 0 0 0 0; x -1 0 0 1;",
            "0 0 23 1 0; 0 0 51 -1 0; 0 4 24 0 0; 0 4 51 -1 0; 0 8 25 0 0; 0 8 51 -1 0;");
        word("lui a0, %hi(0x12345fff)", "37653412");
        word("lui a0, %hi(0x1800)", "0965");
        word("addi a0, a0, %lo(0x12345fff)", "7d15");
        word("lw a0, %lo(0x804)(a0)", "03254580");
        for (String bad : new String[] {"addi a0, a0, %hi(x)", "lui a0, %lo(x)", "lui a0, %pcrel_hi(x)", "auipc a0, %hi(x)", "slli a0, a0, %lo(1)",
            "c.lui a0, %hi(x)", "c.addi a0, %lo(1)", "c.lw a0, %lo(0)(a0)", "jal %lo(x)", "j %hi(x)", "li a0, %lo(1)", "la a0, %hi(x)",
            "beq a0, a1, %lo(x)", "lw a0, %lo(x)", "call %hi(x)", "c.lwsp a0, %lo(0)(sp)"}) {
            Check.fault(bad, 12, 0);
        }
        Check.fault("lui a0, %hi(x - y)", 14, 8);
        Check.fault("auipc a0, %pcrel_hi(4)", 14, 10);
        Check.fault("addi a0, a0, %pcrel_lo(x + 4)", 14, 13);
        Check.fault("addi a0, a0, %pcrel_lo(4)", 14, 13);
        Check.good("addi a0, a0, %pcrel_lo(x + 4 - 4)");
    }

    private static void others() {
        word("nop", "0100");
        word("li a0, -2048", "13050080");
        word("li a0, 2047", "1305f07f");
        word("li a0, -2049", "7d75" + "1305f57f");
        word("li a0, 31", "7d45");
        word("li a0, 2048", "0565" + "13050580");
        word("li a0, 0x1000", "0565");
        word("li a0, 0x80000000", "37050080");
        word("li sp, 0x1010", "37110000" + "4101");
        word("li a0, 4096 * 5 - 1", "1565" + "7d15");
        word("la a0, 17", "4545");
        word("mv a0, a1", "2e85");
        word("mv zero, a1", "13800500");
        word("not a0, a1", "13c5f5ff");
        word("neg a0, a1", "3305b040");
        word("seqz a0, a1", "13b51500");
        word("snez a0, a1", "3335b000");
        word("sltz a0, a1", "33a50500");
        word("sgtz a0, a1", "3325b000");
        word("jr a0", "0285");
        word("jalr a0", "0295");
        word("ret", "8280");
        word(".option norvc\nret", "67800000");
    }

    /** Instructions of which the words are told with all their relocations and starts. */
    private static void pairs() {
        placed("beqz a0, x", "63000500", "0 0 16 0 0;");
        placed("bnez a0, x", "63100500", "0 0 16 0 0;");
        placed("bgez a0, x", "63500500", "0 0 16 0 0;");
        placed("bltz a0, x", "63400500", "0 0 16 0 0;");
        placed("blez a0, x", "6350a000", "0 0 16 0 0;");
        placed("bgtz a0, x", "6340a000", "0 0 16 0 0;");
        placed("bgt a0, a1, x", "63c0a500", "0 0 16 0 0;");
        placed("ble a0, a1, x", "63d0a500", "0 0 16 0 0;");
        placed("bgtu a0, a1, x", "63e0a500", "0 0 16 0 0;");
        placed("bleu a0, a1, x", "63f0a500", "0 0 16 0 0;");
        placed("j x", "6f000000", "0 0 17 0 0;");
        placed("jal x + 8", "ef000000", "0 0 17 0 8;");
        placed("call x", "97000000e7800000", "0 0 19 0 0; 0 0 51 -1 0;");
        placed("tail x - 4", "1703000067000300", "0 0 19 0 -4; 0 0 51 -1 0;");
        placed("la a0, x + 4", "1705000013050500", "0 0 23 1 4; 0 0 51 -1 0; 0 4 24 0 0; 0 4 51 -1 0;");
        placed("lb a0, x", "1705000003050500", "0 0 23 1 0; 0 0 51 -1 0; 0 4 24 0 0; 0 4 51 -1 0;");
        placed("lhu zero, x", "1700000003500000", "0 0 23 1 0; 0 0 51 -1 0; 0 4 24 0 0; 0 4 51 -1 0;");
        placed("sw a0, x, t0", "9702000023a0a200", "0 0 23 1 0; 0 0 51 -1 0; 0 4 25 0 0; 0 4 51 -1 0;");
        placed("sb a0, x, a0", "170500002300a500", "0 0 23 1 0; 0 0 51 -1 0; 0 4 25 0 0; 0 4 51 -1 0;");
        placed("lw a0, .", "1705000003250500", "0 0 23 0 0; 0 0 51 -1 0; 0 4 24 0 0; 0 4 51 -1 0;");
        placed("beq a0, a1, x", "6300b500", "0 0 16 0 0;");
        placed("lw a0, %lo(x)(zero)", "03250000", "0 0 27 0 0; 0 0 51 -1 0;");
        due("nop\n.option norelax\nla a0, x", "$0 0 2 0 0; x -1 0 0 1;", "0 2 23 1 0; 0 6 24 0 0;");
    }

    private static void placed(String text, String bytes, String relocations) {
        ChainHouse x = Check.good(text);
        Check.due("bytes of " + text, Check.bytes(x, 0), bytes);
        Check.due("relocations of " + text, Check.relocations(x), relocations);
        Check.due("starts of " + text, Check.starts(x), "0");
    }

    private static void statementFaults() {
        Check.fault("nop\nx: frob a0", 9, 7);
        Check.fault(".frob", 9, 0);
        Check.fault("hi a0", 9, 0);
        Check.fault(".data\nx: nop", 10, 9);
        Check.fault(".bss\nli a0", 10, 5);
        Check.fault(".byte 1\nc.nop", 10, 8);
        Check.good(".byte 1\n.byte 1\nnop");
        Check.fault(".option norvc\nc.nop a0", 11, 14);
        Check.fault(".data\n.option norvc\nc.nop", 10, 20);
        for (String bad : new String[] {"add a0, a1", "add a0, a1, a2, a3", "add a0, a1, 5", "add a0, a1, (a2)", "addi a0, a1, a2", "addi a0, a1, (a2)",
            "addi a0, a1, \"a\"", "lw a0, a1", "lw 5, (a1)", "sw a0", "sw a0, x", "sw a0, x, 5", "jalr a0, a1", "jalr a0, 4", "jal a0", "jal", "j", "j a0",
            "ret a0", "nop 1", "li 5, 5", "li a0, a1", "la a0, (a1)", "call a0", "c.lwsp a0, 0(a1)", "c.swsp a0, 0(a0)", "c.addi4spn a0, a1, 4",
            "c.addi16sp a0, 16", "c.nop 0", "c.ebreak a0", "fence 1", "ecall 1", "beqz a0", "bgt a0, x", "c.mv a0", "c.lui a0, a1"}) {
            Check.fault(bad, 12, 0);
        }
    }

    private static void operandFaults() {
        Check.fault("addi a0, a1, 2048", 15, 13);
        Check.fault("addi a0, a1, -2049", 15, 13);
        Check.fault("slli a0, a1, 32", 15, 13);
        Check.fault("slli a0, a1, -1", 15, 13);
        Check.fault("lui a0, 0x100000", 15, 8);
        Check.fault("lui a0, -1", 15, 8);
        Check.fault("sw a0, 2048(a1)", 15, 7);
        Check.fault("c.lw t0, 128(a0)", 15, 5);
        Check.fault("c.lw a0, 128(t0)", 15, 9);
        Check.fault("c.lw a0, 4(t0)", 15, 9);
        Check.fault("c.lw a0, 2(a0)", 15, 9);
        Check.fault("c.lw a0, x(t0)", 14, 9);
        Check.fault("c.sw a0, 4(zero)", 15, 9);
        Check.fault("c.mv zero, a0", 15, 5);
        Check.fault("c.mv a0, zero", 15, 9);
        Check.fault("c.add a0, x0", 15, 10);
        Check.fault("c.jr zero", 15, 5);
        Check.fault("c.li zero, 1", 15, 5);
        Check.fault("c.li a0, 32", 15, 9);
        Check.fault("c.addi a0, 0", 15, 11);
        Check.fault("c.addi zero, 1", 15, 7);
        Check.fault("c.lui sp, 1", 15, 6);
        Check.fault("c.lui a0, 0", 15, 10);
        Check.fault("c.lui a0, 32", 15, 10);
        Check.fault("c.lui a0, -1", 15, 10);
        Check.fault("c.addi16sp sp, 0", 15, 15);
        Check.fault("c.addi16sp sp, 8", 15, 15);
        Check.fault("c.addi4spn a0, sp, 0", 15, 19);
        Check.fault("c.addi4spn t0, sp, 4", 15, 11);
        Check.fault("c.slli a0, 0", 15, 11);
        Check.fault("c.slli a0, 32", 15, 11);
        Check.fault("c.srai a0, 32", 15, 11);
        Check.fault("c.srli a0, 0", 15, 11);
        Check.fault("c.srli t0, 1", 15, 7);
        Check.fault("c.andi a0, 32", 15, 11);
        Check.fault("c.lwsp zero, 0(sp)", 15, 7);
        Check.fault("c.lwsp a0, 254(sp)", 15, 11);
        Check.fault("c.beqz t0, x", 15, 7);
        Check.fault("c.sub a0, t0", 15, 10);
        Check.fault("c.sub a0, a6", 15, 10);
        Check.fault("c.sub t2, a0", 15, 6);
        Check.good("c.sub a5, s0");
        Check.fault("beq a0, a1, 4", 14, 12);
        Check.fault("j 4", 14, 2);
        Check.fault("j x - y", 14, 2);
        Check.fault("call 4", 14, 5);
        Check.fault("li a0, x", 14, 7);
        Check.fault("lw a0, 4", 14, 7);
        Check.fault("lw a0, x(a0)", 14, 7);
        Check.fault("addi a0, a0, x", 14, 13);
        Check.fault("la a0, x - y", 14, 7);
        // 13 of all items ahead of 14, and operands from the left
        Check.fault("li a0, x * 1b", 13, 7);
        Check.fault("li a0, 1 / 0 + 1b", 13, 7);
        Check.fault("1: li a0, 1b", 14, 10);
        Check.fault(".comm a, 1b, 0", 13, 9);
        Check.fault(".byte 256, 1b", 15, 6);
        Check.fault(".byte 1b, 256", 13, 6);
        Check.fault("c.sub t0, t1", 15, 6);
        Check.fault("c.beqz t0, 4", 15, 7);
        Check.fault("c.beqz a0, 4", 14, 11);
        Check.fault("1: nop\n2: j 1b\nj 3b", 13, 17);
    }

    private static void laterFaults() {
        Check.fault("a:\na:", 16, 3);
        Check.fault("a:\n.equ a, 1", 16, 3);
        Check.fault(".equ a, 1\nnop\na:", 16, 14);
        Check.fault(".comm a, 1, 1\na:", 16, 14);
        Check.fault("a:.comm a, 1, 1", 16, 2);
        Check.fault(".comm a, 1, 1\n.comm a, 1, 1", 16, 14);
        Check.fault(".weak a\n.comm a, 1, 1", 16, 8);
        Check.fault(".comm a, 1, 1\n.weak a", 16, 14);
        Check.fault("a: .equ a, x", 14, 11);
        Check.fault(".weak a\n.comm a, 1, 3", 15, 20);
        Check.good(".weak a\na:\n.equ b, 1\n.weak b\n1: 1: 1:");
        Check.fault("nop\nj 1f", 19, 6);
        Check.fault("j 2f\nj 1f\n2: 3:", 19, 7);
        Check.fault("j 2f\nj 1f\nj 2f", 19, 2);
        Check.fault("1: j 1f + 4", 19, 5);
        Check.fault(".word 1, 2 + 7f", 19, 9);
        Check.fault("j 1f\nfrob", 9, 5);
    }

    private static void roomFaults() {
        Check.good(".zero 2048");
        Check.fault(".zero 2049", 18, 0);
        Check.fault(".zero 2047\n x: .half 1", 18, 15);
        Check.fault(".zero 2046\nadd a0, a1, a2", 18, 11);
        Check.good(".zero 2046\nadd a0, a0, a2");
        Check.fault(".zero 2044\ncall x", 18, 11);
        Check.fault(".zero 2047\n.ascii \"\", \"a\", \"b\"", 18, 11);
        Check.good(".bss\n.zero 4095\n.zero 1");
        Check.fault(".bss\n.zero 4095\n.align 1\n.zero 1", 18, 25);
        Check.fault(".data\n.zero 2047\n.zero 2", 18, 17);
        StringBuilder labels = new StringBuilder();
        for (int k = 0; k < 99; k++) {
            labels.append("n").append(k).append(":");
        }
        Check.good(labels + "x:");
        Check.fault(labels + "x: y:", 18, labels.length() + 3);
        Check.fault(labels + "x: .word 1f", 18, labels.length() + 3);
        Check.fault(labels + "x: .word .", 18, labels.length() + 3);
        Check.fault(labels + "la a0, x", 18, labels.length());
        Check.fault(labels + "x: .word 1, y, 1 / 0", 18, labels.length() + 3);
        Check.fault(labels + "x: .word 1, 1 / 0, y", 14, labels.length() + 12);
        Check.fault(labels + "x: .equ y, 1 / 0", 18, labels.length() + 3);
        String words = ".word x" + ",x".repeat(99) + "\n";
        Check.good(words + words + words);
        Check.fault(words + words + words + " .word x", 18, 3 * words.length() + 1);
        Check.fault(words + words + words + ".word 1/0, x", 14, 3 * words.length() + 6);
        Check.good(words + words + words + ".word 1");
        String less = ".word x" + ",x".repeat(98) + "\n";
        Check.fault(words + words + less + "call x", 18, 2 * words.length() + less.length());
        Check.good(words + words + less + ".option norelax\ncall x");
        // the FILE: three full sections and many relocations
        String sixty = ".word x" + ",x".repeat(59) + "\n";
        String big = ".zero 1808\n" + sixty + ".data\n.zero 1808\n" + sixty + ".rodata\n.zero 1808\n";
        Check.fault(big + sixty, 20, big.length() + sixty.length());
        Check.good(big);
        Check.fault(big + sixty + "\n# x\nj 1f", 10, big.length() + sixty.length() + 5);
        String roomy = big.replace(".rodata\n.zero 1808", ".rodata\n.zero 1804");
        Check.fault(roomy + sixty, 20, big.length() + sixty.length());
        Check.fault(roomy + sixty + "\n.word 1f", 19, big.length() + sixty.length() + 7);
    }
}
