/** Promises 30 and 31, and section 1: words, their kinds, texts and SHORTER ones. */
public final class WordsTest {
    private static final int AT = 65540;

    /** A word in hexadecimal and its text where it stands at address 0x10004. */
    private static final String[] WORDS = {
        "00000437 lui s0, 0x0",
        "fffff537 lui a0, 0xfffff",
        "00000f97 auipc t6, 0x0",
        "fffff017 auipc zero, 0xfffff",
        "800008ef jal a7, 0xfff10004",
        "7ffff2ef jal t0, 0x110002",
        "80010067 jalr zero, -2048(sp)",
        "7ff500e7 jalr ra, 2047(a0)",
        "80588063 beq a7, t0, 0xf004",
        "7ff78fe3 beq a5, t6, 0x11002",
        "80509063 bne ra, t0, 0xf004",
        "7e501fe3 bne zero, t0, 0x11002",
        "8087c063 blt a5, s0, 0xf004",
        "7ef14fe3 blt sp, a5, 0x11002",
        "80115063 bge sp, ra, 0xf004",
        "7f115fe3 bge sp, a7, 0x11002",
        "80216063 bltu sp, sp, 0xf004",
        "7e006fe3 bltu zero, zero, 0x11002",
        "8052f063 bgeu t0, t0, 0xf004",
        "7e217fe3 bgeu sp, sp, 0x11002",
        "80050403 lb s0, -2048(a0)",
        "7fff8283 lb t0, 2047(t6)",
        "80011283 lh t0, -2048(sp)",
        "7ff79283 lh t0, 2047(a5)",
        "80002403 lw s0, -2048(zero)",
        "7ff7a503 lw a0, 2047(a5)",
        "80014103 lbu sp, -2048(sp)",
        "7ff0c403 lbu s0, 2047(ra)",
        "80045503 lhu a0, -2048(s0)",
        "7ff55003 lhu zero, 2047(a0)",
        "80808023 sb s0, -2048(ra)",
        "7e850fa3 sb s0, 2047(a0)",
        "80a89023 sh a0, -2048(a7)",
        "7f111fa3 sh a7, 2047(sp)",
        "8028a023 sw sp, -2048(a7)",
        "7e802fa3 sw s0, 2047(zero)",
        "80050013 addi zero, a0, -2048",
        "7ff00793 addi a5, zero, 2047",
        "8007af93 slti t6, a5, -2048",
        "7ff7a513 slti a0, a5, 2047",
        "8008b013 sltiu zero, a7, -2048",
        "7ff13013 sltiu zero, sp, 2047",
        "8000c293 xori t0, ra, -2048",
        "7ff8c293 xori t0, a7, 2047",
        "800fe513 ori a0, t6, -2048",
        "7fffe513 ori a0, t6, 2047",
        "8008f413 andi s0, a7, -2048",
        "7ff57093 andi ra, a0, 2047",
        "00001413 slli s0, zero, 0",
        "01f09793 slli a5, ra, 31",
        "00055293 srli t0, a0, 0",
        "01f55f93 srli t6, a0, 31",
        "40055113 srai sp, a0, 0",
        "41ffd413 srai s0, t6, 31",
        "00a400b3 add ra, s0, a0",
        "00110433 add s0, sp, ra",
        "41140133 sub sp, s0, a7",
        "40100133 sub sp, zero, ra",
        "00079fb3 sll t6, a5, zero",
        "008512b3 sll t0, a0, s0",
        "0027a8b3 slt a7, a5, sp",
        "01102033 slt zero, zero, a7",
        "0022b533 sltu a0, t0, sp",
        "0017b133 sltu sp, a5, ra",
        "00a7c133 xor sp, a5, a0",
        "00f04133 xor sp, zero, a5",
        "01115433 srl s0, sp, a7",
        "011fd133 srl sp, t6, a7",
        "411558b3 sra a7, a0, a7",
        "41145433 sra s0, s0, a7",
        "001167b3 or a5, sp, ra",
        "002fe7b3 or a5, t6, sp",
        "002578b3 and a7, a0, sp",
        "0088f0b3 and ra, a7, s0",
        "03ff8fb3 mul t6, t6, t6",
        "02a08533 mul a0, ra, a0",
        "02a41033 mulh zero, s0, a0",
        "03141fb3 mulh t6, s0, a7",
        "02a42433 mulhsu s0, s0, a0",
        "03102133 mulhsu sp, zero, a7",
        "02a43fb3 mulhu t6, s0, a0",
        "0288b433 mulhu s0, a7, s0",
        "02a54fb3 div t6, a0, a0",
        "02f54433 div s0, a0, a5",
        "03115533 divu a0, sp, a7",
        "03f55533 divu a0, a0, t6",
        "022fe133 rem sp, t6, sp",
        "031562b3 rem t0, a0, a7",
        "02f0f433 remu s0, ra, a5",
        "02fff133 remu sp, t6, a5",
        "0ff0000f fence",
        "00000073 ecall",
        "00100073 ebreak",
        "0000005c c.addi4spn a5, sp, 4",
        "00001ffc c.addi4spn a5, sp, 1020",
        "0000401c c.lw a5, 0(s0)",
        "00005c7c c.lw a5, 124(s0)",
        "0000c100 c.sw s0, 0(a0)",
        "0000dd60 c.sw s0, 124(a0)",
        "00000001 c.nop",
        "00001401 c.addi s0, -32",
        "000002fd c.addi t0, 31",
        "00003001 c.jal 0xf804",
        "00002ffd c.jal 0x10802",
        "00005501 c.li a0, -32",
        "0000447d c.li s0, 31",
        "00007101 c.addi16sp sp, -512",
        "0000617d c.addi16sp sp, 496",
        "00006085 c.lui ra, 0x1",
        "00007f81 c.lui t6, 0xfffe0",
        "00008005 c.srli s0, 1",
        "000083fd c.srli a5, 31",
        "00008505 c.srai a0, 1",
        "0000847d c.srai s0, 31",
        "00009b81 c.andi a5, -32",
        "0000887d c.andi s0, 31",
        "00008d09 c.sub a0, a0",
        "00008f81 c.sub a5, s0",
        "00008fa9 c.xor a5, a0",
        "00008d29 c.xor a0, a0",
        "00008fdd c.or a5, a5",
        "00008d49 c.or a0, a0",
        "00008d61 c.and a0, s0",
        "00008fe9 c.and a5, a0",
        "0000b001 c.j 0xf804",
        "0000affd c.j 0x10802",
        "0000d101 c.beqz a0, 0xff04",
        "0000cffd c.beqz a5, 0x10102",
        "0000f001 c.bnez s0, 0xff04",
        "0000ec7d c.bnez s0, 0x10102",
        "00000406 c.slli s0, 1",
        "00000ffe c.slli t6, 31",
        "00004402 c.lwsp s0, 0(sp)",
        "00005ffe c.lwsp t6, 252(sp)",
        "00008f82 c.jr t6",
        "000080aa c.mv ra, a0",
        "0000842a c.mv s0, a0",
        "00009002 c.ebreak",
        "00009282 c.jalr t0",
        "00009402 c.jalr s0",
        "00009f86 c.add t6, ra",
        "00009086 c.add ra, ra",
        "0000c022 c.swsp s0, 0(sp)",
        "0000df96 c.swsp t0, 252(sp)",
        "00000000 .half 0x0",
        "00000004 .half 0x4",
        "00002000 .half 0x2000",
        "00006000 .half 0x6000",
        "0000a000 .half 0xa000",
        "0000e000 .half 0xe000",
        "00008000 .half 0x8000",
        "00004001 .half 0x4001",
        "00006001 .half 0x6001",
        "00006101 .half 0x6101",
        "00006081 .half 0x6081",
        "00009001 .half 0x9001",
        "00009c01 .half 0x9c01",
        "00009c21 .half 0x9c21",
        "00009c41 .half 0x9c41",
        "00000002 .half 0x2",
        "00001406 .half 0x1406",
        "00000402 .half 0x402",
        "00004002 .half 0x4002",
        "00008002 .half 0x8002",
        "00008006 .half 0x8006",
        "00009006 .half 0x9006",
        "00002002 .half 0x2002",
        "00006002 .half 0x6002",
        "0000a002 .half 0xa002",
        "0000e002 .half 0xe002",
        "00001005 .half 0x1005",
        "00008401 .half 0x8401",
        "00008001 .half 0x8001",
        "00008081 .half 0x8081",
        "0000007f .word 0x7f",
        "00002063 .word 0x2063",
        "00003063 .word 0x3063",
        "00003003 .word 0x3003",
        "00006003 .word 0x6003",
        "00007003 .word 0x7003",
        "00003023 .word 0x3023",
        "02001013 .word 0x2001013",
        "40001013 .word 0x40001013",
        "02005013 .word 0x2005013",
        "04000033 .word 0x4000033",
        "40001033 .word 0x40001033",
        "42000033 .word 0x42000033",
        "0000000f .word 0xf",
        "0ff0001f .word 0xff0001f",
        "00200073 .word 0x200073",
        "00001067 .word 0x1067",
        "30001073 .word 0x30001073",
        "ffffffff .word 0xffffffff",
        "0000100f .word 0x100f",    };

    /** Long instructions and the word that stands for each (four digits: a short one). */
    private static final String[][] SHORTER = {
        {"addi a0, sp, 4", "0048"}, {"addi a0, sp, 1020", "1fe8"}, {"addi a0, sp, 1024", "40010513"}, {"addi a0, sp, 6", "00610513"},
        {"addi a0, sp, 0", "850a"}, {"addi sp, sp, 16", "0141"}, {"addi sp, sp, 32", "6105"}, {"addi sp, sp, -512", "7101"},
        {"addi sp, sp, 40", "02810113"}, {"addi zero, zero, 0", "0001"}, {"addi zero, zero, 1", "00100013"}, {"addi zero, a0, 0", "00050013"},
        {"addi a0, a0, 31", "057d"}, {"addi a0, a0, 32", "02050513"}, {"addi a0, a0, -32", "1501"}, {"addi a0, a0, 0", "852a"},
        {"addi a0, zero, 0", "4501"}, {"addi a0, zero, -33", "fdf00513"}, {"addi a0, a1, 0", "852e"}, {"addi t6, s11, 0", "8fee"},
        {"addi ra, a0, 0", "80aa"}, {"addi a0, ra, 0", "8506"}, {"sw a6, 0(a0)", "01052023"}, {"lw a0, 0(a6)", "00082503"}, {"and a6, a6, a0", "00a87833"},
        {"lui a0, 1", "6505"}, {"lui a0, 31", "657d"}, {"lui a0, 32", "00020537"}, {"lui a0, 0xfffe0", "7501"}, {"lui a0, 0xfffdf", "fffdf537"},
        {"lui a0, 0", "00000537"}, {"lui sp, 1", "00001137"}, {"lui zero, 1", "00001037"},
        {"lw a0, 124(s0)", "5c68"}, {"lw a0, 128(s0)", "08042503"}, {"lw a0, 2(s0)", "00242503"}, {"lw t0, 0(sp)", "4282"},
        {"lw a0, 252(sp)", "557e"}, {"lw a0, 256(sp)", "10012503"}, {"lw zero, 0(sp)", "00012003"}, {"lw t0, 0(a0)", "00052283"},
        {"sw a0, 64(a5)", "c3a8"}, {"sw zero, 252(sp)", "df82"}, {"sw zero, 0(a0)", "00052023"}, {"sw a0, -4(sp)", "fea12e23"},
        {"srli s0, s0, 1", "8005"}, {"srli s0, s0, 0", "00045413"}, {"srli t0, t0, 1", "0012d293"}, {"srli s0, s1, 1", "0014d413"},
        {"srai a5, a5, 31", "87fd"}, {"slli t0, t0, 5", "0296"}, {"slli t0, t0, 0", "00029293"}, {"slli zero, zero, 1", "00101013"},
        {"andi a0, a0, -32", "9901"}, {"andi a0, a0, 32", "02057513"}, {"andi a0, a1, 1", "0015f513"}, {"ori a0, a0, 1", "00156513"},
        {"add a0, a0, a1", "952e"}, {"add a0, a1, a0", "952e"}, {"add a0, zero, a1", "852e"}, {"add a0, a1, zero", "00058533"},
        {"add a0, zero, a0", "852a"}, {"add a0, a0, zero", "00050533"}, {"add zero, a0, a1", "00b50033"}, {"add a0, a1, a2", "00c58533"},
        {"sub a0, a0, a1", "8d0d"}, {"sub a0, a1, a0", "40a58533"}, {"sub t0, t0, a1", "40b282b3"},
        {"xor a0, a1, a0", "8d2d"}, {"or a0, a0, a1", "8d4d"}, {"and s1, a5, s1", "8cfd"}, {"and t0, t0, a0", "00a2f2b3"},
        {"jalr zero, 0(ra)", "8082"}, {"jalr ra, 0(t0)", "9282"}, {"jalr ra, 2(t0)", "002280e7"}, {"jalr zero, 0(zero)", "00000067"},
        {"jalr t0, 0(ra)", "000082e7"}, {"ebreak", "9002"}, {"ecall", "00000073"}, {"fence", "0ff0000f"}, {"mul a0, a0, a1", "02b50533"},
    };

    public static void main(String[] args) {
        for (String row : WORDS) {
            word(row.substring(0, 8), row.substring(9));
        }
        for (String[] row : SHORTER) {
            shorter(row[0], row[1]);
        }
        places();
        Check.end();
    }

    private static void word(String hex, String text) {
        ChainHouse x = new ChainHouse();
        Check.assemble(x, 0, ".option norvc\n.globl _start\n_start: nop\n.word 0x" + hex + "\n");
        Check.linkAndLoad(x, 1, true);
        Check.due("the text of " + hex, Check.told(x, AT), text);
        Check.due("letter behind the text of " + hex, x.letter(text.length()), -1);
        Check.due("letter ahead of the text of " + hex, x.letter(-1), -1);
        if (text.startsWith(".") || text.contains("0x") && !text.contains("lui") && !text.contains("auipc")) {
            return;
        }
        ChainHouse y = Check.good((text.startsWith("c.") ? "" : ".option norvc\n") + text);
        Check.due("the word of " + text, Check.number(y, 0, 52, y.object(0, 0, 0)), (int) Long.parseLong(hex, 16));
    }

    private static void shorter(String text, String hex) {
        ChainHouse x = Check.good(text);
        Check.due("how many bytes " + text + " has", x.object(0, 0, 0), hex.length() / 2);
        Check.due("the word of " + text, Check.number(x, 0, 52, hex.length() / 2), (int) Long.parseLong(hex, 16));
        ChainHouse y = Check.good(".option norvc\n" + text);
        Check.due("how many bytes " + text + " has without shorts", y.object(0, 0, 0), 4);
    }

    private static void places() {
        ChainHouse x = new ChainHouse();
        Check.due("the text of empty memory", Check.told(x, 0), ".half 0x0");
        Check.due("tell beyond memory", x.tell(131072), -1);
        Check.due("tell beyond memory", x.tell(-2), -1);
        Check.due("tell at an odd address", x.tell(1), -1);
        Check.due("OUT stays", x.letter(6), '0');
        Check.due("tell at the last address", x.tell(131070), 9);
        // a long word of which the upper half is beyond memory: DATA is moved to the end of memory
        Check.assemble(x, 0, ".globl _start\n_start: nop\n.data\n.zero 14\n.half 0xfff3\n");
        Check.linkAndLoad(x, 1, true);
        int row = Check.imageRow(x, 1, 6);
        Check.due("DATA's address", Check.number(x, -1, row + 8, 4), 65552);
        Check.put(x, -1, row + 8, 4, 131056);
        Check.put(x, -1, row + 12, 4, 131056);
        Check.due("load with another sum", x.load(), 29);
        Check.fixSum(x);
        Check.due("load", x.load(), 0);
        Check.due("the text of a word that goes beyond memory", Check.told(x, 131070), ".word 0xfff3");
    }
}
