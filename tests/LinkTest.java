/** Promises 14, 15 and 16, and sections 4 and 8: globals, laying out, shrinking, relocating, and what can't be linked. */
public final class LinkTest {
    private static final String START = ".globl _start\n_start: ";

    public static void main(String[] args) {
        calls();
        globals();
        globalFaults();
        specials();
        places();
        shrinkCall();
        shrinkNear();
        shrinkUpper();
        fills();
        emptyFill();
        settle();
        data();
        targets();
        lows();
        nearLows();
        rooms();
        images();
        Check.end();
    }

    private static ChainHouse units(String... texts) {
        ChainHouse x = new ChainHouse();
        for (int u = 0; u < texts.length; u++) {
            int n = Check.assemble(x, u, texts[u]);
            Check.due("unit " + u + " has no fault (" + x.fault(0) + " at " + x.fault(1) + ")", n > 0, true);
        }
        return x;
    }

    private static void fault(int fault, int unit, int number, String... texts) {
        for (int shrinks = 0; shrinks < 2; shrinks++) {
            Check.linkFault(units(texts), (1 << texts.length) - 1, shrinks == 1, fault, unit, number);
        }
    }

    /** Links all units and loads the image. */
    private static ChainHouse linked(boolean shrinks, String... texts) {
        ChainHouse x = units(texts);
        Check.linkAndLoad(x, (1 << texts.length) - 1, shrinks);
        Check.due("linked(0)", x.linked(0), 0);
        Check.due("linked(1)", x.linked(1), -1);
        Check.due("linked(2)", x.linked(2), -1);
        return x;
    }

    private static void told(ChainHouse x, int at, String... texts) {
        int place = at;
        for (String text : texts) {
            Check.due("the text at " + place, Check.told(x, place), text);
            place += (x.peek(place) & 3) == 3 ? 4 : 2;
        }
    }

    private static int word(ChainHouse x, int at) {
        return x.peek(at) | x.peek(at + 1) << 8 | x.peek(at + 2) << 16 | x.peek(at + 3) << 24;
    }

    private static void calls() {
        ChainHouse x = new ChainHouse();
        for (int set : new int[] {0, 64, -1, 2147483647, -2147483648}) {
            Check.due("link of set " + set, Check.link(x, set, true), Check.ARGUMENT);
        }
        Check.due("linked(0)", x.linked(0), 0);
        Check.linkFault(x, 32, true, 1, 5, -1);
        Check.due("link of set 0", Check.link(x, 0, true), Check.ARGUMENT);
        Check.due("linked(0) stays", x.linked(0), 1);
        Check.assemble(x, 3, START + "nop\ncall _start");
        Check.due("link", Check.link(x, 8, true), x.size(-1));
        Check.due("saved", x.linked(4), 6);
        Check.due("fixed", x.linked(3), 0);
        Check.due("linked(5)", x.linked(5), -1);
        Check.due("linked(-1)", x.linked(-1), -1);
        int n = x.size(-1);
        Check.due("where", Check.where(x, "_start"), 65536);
        Check.due("where, zeros left out", x.where(0x005f007374000061L, 0x0000720000740000L), 65536);
        Check.due("where of none", Check.where(x, "_star"), Check.ELEMENT);
        ChainHouse z = linked(true, START + "nop\n.globl abcdefgh\nabcdefgh: nop\n.globl abcdefghi\nabcdefghi: nop\n.globl abcdefghijklmnop\nabcdefghijklmnop: nop\n.globl abcdefghijklmno\nabcdefghijklmno:");
        Check.due("where", Check.where(z, "abcdefgh"), 65538);
        Check.due("where", Check.where(z, "abcdefghi"), 65540);
        Check.due("where", Check.where(z, "abcdefghijklmnop"), 65542);
        Check.due("where", Check.where(z, "abcdefghijklmno"), 65544);
        Check.due("where", Check.where(z, "abcdefghijklm"), Check.ELEMENT);
        Check.due("where of nothing", Check.where(x, ""), Check.ELEMENT);
        // with a fault the image, the globals and what was saved stay
        Check.linkFault(x, 9, true, 1, 0, -1);
        Check.due("the IMAGE stays", x.size(-1), n);
        Check.due("where", Check.where(x, "_start"), 65536);
        Check.due("saved", x.linked(4), 6);
        x.spoil(3, 16, 9);
        Check.linkFault(x, 8, true, 2, 3, 7);
        x.take(0);
        Check.linkFault(x, 9, true, 1, 0, -1);
        // a unit without bytes is none
        x.cut(3, 0);
        Check.linkFault(x, 8, true, 1, 3, -1);
        // 1 then 2 of each unit
        Check.assemble(x, 0, "nop");
        x.spoil(0, 0, 0);
        Check.linkFault(x, 9, true, 2, 0, 2);
    }

    private static void globals() {
        ChainHouse x = linked(true, START + "nop\n.globl a\na: nop\n.weak w\n.weak z\n.data\nw: .word a, b, c, w, z, v\n.globl k\n.equ k, -7\nl: .word l",
            ".data\n.word 1\n.globl w\nw: .word 5\n.comm c, 8, 4\n.weak z\n.weak v\nv: .word z\nl: .word l",
            ".globl b\n.rodata\nb: .byte 7\n.comm c, 4, 32\n.weak v\n.text\nv: nop\nl: nop");
        Check.due("where a", Check.where(x, "a"), 65538);
        Check.due("where b", Check.where(x, "b"), 65552);
        Check.due("where k", Check.where(x, "k"), -7);
        Check.due("where z, all weak", Check.where(x, "z"), 0);
        Check.due("where l, local", Check.where(x, "l"), Check.ELEMENT);
        int data = 65568;
        Check.due("where w, not weak", Check.where(x, "w"), data + 28 + 4);
        Check.due("where v, the first weak one", Check.where(x, "v"), data + 28 + 8);
        // .data ends at data + 28 + 16; the common one is aligned by the greatest alignment
        Check.due("where c", Check.where(x, "c"), 65632);
        int[] want = {65538, 65552, 65632, data + 32, 0, data + 36, data + 24};
        for (int k = 0; k < want.length; k++) {
            Check.due("word " + k, word(x, data + 4 * k), want[k]);
        }
        Check.due("the second unit's l", word(x, data + 28 + 12), data + 28 + 12);
        // the common one has the greatest of its sizes
        Check.due("rights within it", x.rights(65632 + 7), 3);
        Check.due("rights behind it", x.rights(65632 + 8), 0);
        // a definition is ahead of common ones, and these of weak ones
        x = linked(true, START + "nop\n.comm q, 4, 4\n.weak p", ".globl q\n.data\nq: .word 1\n.weak p\np: .word 3", ".comm p, 4, 4");
        Check.due("where q", Check.where(x, "q"), 65552);
        Check.due("where p", Check.where(x, "p"), 65560);
    }

    private static void globalFaults() {
        fault(3, 1, 0, START + "nop\n.globl a\na:", ".globl a\na:");
        fault(3, 1, 1, START + "nop\n.globl a\na:", "l: .globl a\n.equ a, 1");
        fault(3, 2, 0, START + "j u\n.globl a\na:", "nop", ".globl a\na:");
        fault(4, 0, 1, START + "j u\n.word v", "nop");
        fault(4, 1, 0, START + "nop\n.weak u", ".word u");
        fault(4, 1, 0, START + ".weak u\n.word u", ".word u, x");
        fault(5, -1, -1, "nop");
        fault(5, -1, -1, "_start: nop");
        fault(5, -1, -1, "nop\n.data\n" + START);
        fault(5, -1, -1, ".globl _start\n.equ _start, 65536");
        fault(5, -1, -1, "nop\n.comm _start, 4, 4");
        fault(4, 0, 0, "j _start");
        fault(5, -1, -1, ".weak _start\nla a0, _start");
        linked(true, ".weak _start\n_start: nop");
    }

    private static void specials() {
        ChainHouse x = linked(true, START + "nop\n.data\n.word _gp, _etext, _edata, _bss, _end\n.byte 1\n.bss\n.zero 5\n.globl _x\n_x:", "nop\n.weak _end\n.word _end");
        int data = 65552;
        int[] want = {data + 2048, 65546, data + 21, data + 21, data + 26};
        for (int k = 0; k < 5; k++) {
            Check.due("special " + k, word(x, data + 4 * k), want[k]);
        }
        Check.due("where _end", Check.where(x, "_end"), data + 26);
        Check.due("where _gp", Check.where(x, "_gp"), data + 2048);
        Check.due("_etext", Check.where(x, "_etext"), 65546);
        x = linked(true, START + "nop\n.word _end\n.globl _end\n.equ _end, 5");
        Check.due("where _end, DEFINED", Check.where(x, "_end"), 5);
    }

    private static void places() {
        ChainHouse x = linked(true, START + "nop\n.rodata\n.byte 1\n.data\n.byte 2\n.bss\n.zero 1\n.globl b0\nb0:\n.data\n.globl d0\nd0:",
            "nop\n.globl u1\nu1: nop\n.rodata\n.align 5\n.byte 3\n.globl r1\nr1:\n.data\n.align 2\n.byte 4\n.globl d1\nd1:\n.bss\n.align 3\n.zero 8\n.globl b1\nb1:");
        Check.due("where u1", Check.where(x, "u1"), 65542);
        Check.due("where r1", Check.where(x, "r1"), 65569);
        Check.due("where d0", Check.where(x, "d0"), 65585);
        Check.due("where d1", Check.where(x, "d1"), 65589);
        Check.due("where b0", Check.where(x, "b0"), 65590);
        Check.due("where b1", Check.where(x, "b1"), 65600);
        Check.due("bytes between are 0", x.peek(65538), 0);
        Check.due("ENTRY", x.get(32), 65536);
        Check.due("gp", x.get(3), 65584 + 2048);
    }

    private static void shrinkCall() {
        ChainHouse x = linked(true, START + "call f\ntail f\ncall f + 2\nf: nop\nnop");
        told(x, 65536, "c.jal 0x10006", "c.j 0x10006", "c.jal 0x10008", "c.nop", "c.nop");
        Check.due("saved", x.linked(4), 18);
        Check.due("where", Check.where(x, "f"), Check.ELEMENT);
        x = linked(false, START + "call f\ntail f\nf: nop");
        told(x, 65536, "auipc ra, 0x0", "jalr ra, 16(ra)", "auipc t1, 0x0", "jalr zero, 8(t1)", "c.nop");
        Check.due("saved", x.linked(4), 0);
        // without a short word there is no TWO
        x = linked(true, ".option norvc\n" + START + "call f\ntail f\nf: nop");
        told(x, 65536, "jal ra, 0x10008", "jal zero, 0x10008", "addi zero, zero, 0");
        // without relax nothing shrinks
        x = linked(true, ".option norelax\n" + START + "call f\nf: nop");
        told(x, 65536, "auipc ra, 0x0", "jalr ra, 8(ra)", "c.nop");
        // the edges of TWO: 2046, 2048, and -2048, -2050
        x = linked(true, START + "call f\nnop\n.zero 2038", "nop\n.globl f\nf: nop");
        told(x, 65536, "c.jal 0x107fe");
        x = linked(true, START + "call f\nnop\n.zero 2038", "nop\nnop\n.globl f\nf: nop");
        told(x, 65536, "jal ra, 0x10800");
        Check.due("saved", x.linked(4), 4);
        x = linked(true, START + "nop\n.globl f\nf: .zero 2046\n", "call f - 2\nnop");
        told(x, 65536 + 2048, "c.jal 0x10000");
        x = linked(true, START + "nop\n.globl f\nf: .zero 2046\n", "nop\ncall f - 2\nnop");
        told(x, 65536 + 2050, "jal ra, 0x10000");
        // an odd way can't be a jump
        x = linked(true, START + "call f + 1\nnop\nf: nop");
        told(x, 65536, "auipc ra, 0x0", "jalr ra, 11(ra)", "c.nop");
        // far ones: beyond 1,048,574 by the constant
        x = linked(true, START + "call f + 0x100000\nnop\nf: nop");
        told(x, 65536, "auipc ra, 0x100", "jalr ra, 10(ra)");
        x = linked(true, START + "call f + 0xffff4\nnop\nf: nop");
        told(x, 65536, "jal ra, 0x10fffa");
        x = linked(true, START + "call f + 0xffff6\nnop\nf: nop");
        told(x, 65536, "auipc ra, 0x100", "jalr ra, 0(ra)");
        // an absolute symbol's label is nowhere: nothing shrinks
        x = linked(true, START + "call a\nnop\n.globl a\n.equ a, 65536");
        told(x, 65536, "auipc ra, 0x0", "jalr ra, 0(ra)");
        Check.due("saved", x.linked(4), 0);
    }

    private static void shrinkNear() {
        ChainHouse x = linked(true, START + "la a0, d\nlw a1, d + 4\nsw a1, d + 4091, t0\nsb a1, d + 4096, t0\n.data\nd: .word 1");
        told(x, 65536, "addi a0, gp, -2048", "lw a1, -2044(gp)", "sw a1, 2043(gp)", "auipc t0, 0x1");
        Check.due("saved", x.linked(4), 12);
        x = linked(true, START + "la a0, d - 0x10000\nla a1, d - 0x10000 + 2031\n.data\n.word 0\nd: .word 1");
        told(x, 65536, "addi a0, zero, 20", "auipc a1, 0xffff0", "addi a1, a1, 2047");
        x = linked(false, START + "la a0, d\nnop\n.data\nd: .word 1");
        told(x, 65536, "auipc a0, 0x0", "addi a0, a0, 16", "c.nop");
        x = linked(true, START + "la a0, _gp\nla a1, _start");
        told(x, 65536, "auipc a0, 0x1", "addi a0, a0, -2032", "auipc a1, 0x0");
        // its start is at the word that is left
        Check.due("marked", x.rights(65536), 13);
        x = linked(true, START + "nop\nla a0, d\nnop\n.data\nd: .word 1");
        int[] rights = {13, 13, 5, 13};
        for (int k = 0; k < 4; k++) {
            Check.due("rights", x.rights(65536 + 2 * k), rights[k]);
        }
    }

    private static void shrinkUpper() {
        String[] texts = {START + "lui a0, %hi(d)\naddi a0, a0, %lo(d)\nlui a1, %hi(f)\nlw a1, %lo(f)(a1)\nsw a1, %lo(d + 4)(a0)\nlui sp, %hi(f)\nnop\nf: nop\n.data\nd: .word 1"};
        ChainHouse x = linked(true, texts);
        told(x, 65536, "addi a0, gp, -2048", "c.lui a1, 0x10", "lw a1, 20(a1)", "sw a1, -2044(gp)", "lui sp, 0x10");
        Check.due("saved", x.linked(4), 6);
        x = linked(false, texts);
        told(x, 65536, "lui a0, 0x10", "addi a0, a0, 32", "lui a1, 0x10", "lw a1, 26(a1)", "sw a1, 36(a0)", "lui sp, 0x10");
        // absolute ones: the upper word stays, the lower one has the number itself
        x = linked(true, START + "lui a0, %hi(k)\naddi a0, a0, %lo(k)\nlui a0, %hi(m)\naddi a0, a0, %lo(m)", ".globl k\n.equ k, 2047\n.globl m\n.equ m, 0x12345fff");
        told(x, 65536, "lui a0, 0x0", "addi a0, zero, 2047", "lui a0, 0x12346", "addi a0, a0, -1");
        // without TWO
        x = linked(true, ".option norvc\n" + START + "lui a1, %hi(f)\nf: nop");
        told(x, 65536, "lui a1, 0x10");
        // c.lui has 1 to 31
        x = linked(true, START + "lui a0, %hi(d + 0xf7e0)\nlui a0, %hi(d + 0xf7f0)\nnop\nlui a1, %hi(d - 0xf010)\nlui a1, %hi(d - 0xf810)\n.data\nd: .word 1");
        told(x, 65536, "c.lui a0, 0x1f", "lui a0, 0x20", "c.nop", "c.lui a1, 0x1", "c.lui a1, 0x1");
        // V beyond an int
        fault(8, 0, 0, START + "nop\nlui a0, %hi(k + 1)\n.globl k\n.equ k, 0x7fffffff");
    }

    private static void fills() {
        ChainHouse x = linked(true, START + "nop\n.align 3\n.globl a\na: nop\n.align 2\n.globl b\nb: nop\n.align 4\n.globl c\nc: nop");
        Check.due("where a", Check.where(x, "a"), 65544);
        Check.due("where b", Check.where(x, "b"), 65548);
        Check.due("where c", Check.where(x, "c"), 65552);
        told(x, 65536, "c.nop", "addi zero, zero, 0", "c.nop", "c.nop", "c.nop", "c.nop", "c.nop", "c.nop");
        x = linked(false, START + "nop\n.align 3\n.globl a\na: nop");
        Check.due("where a", Check.where(x, "a"), 65544);
        x = linked(true, START + "call f\n.align 3\nf: nop");
        told(x, 65536, "c.jal 0x10008", "addi zero, zero, 0", "c.nop", "c.nop");
        Check.due("saved: fills don't count", x.linked(4), 6);
        x = linked(true, START + "nop\n.align 4\nnop");
        told(x, 65536, "c.nop", "addi zero, zero, 0", "addi zero, zero, 0", "addi zero, zero, 0", "c.nop", "c.nop");
        // a fill of an odd number of bytes: 1, then 0
        x = linked(true, START + "nop\n.byte 3\n.align 2\n.byte 9, 8");
        due(x, 1, 0, 3, 1, 9, 8);
        x = linked(true, START + "nop\nnop\n.byte 7\n.align 3\n.byte 9, 8");
        due(x, 1, 0, 1, 0, 7, 1, 0, 0, 9, 8);
        x = linked(true, START + "nop\n.byte 7\n.align 3\n.byte 9, 8");
        due(x, 1, 0, 7, 0x13, 0, 0, 0, 1, 9, 8);
        // one that is too short, the first
        fault(8, 0, 0, START + ".byte 3\n.align 2\n.byte 9\n.align 3");
        fault(8, 1, 1, START + "nop", ".word x\n.byte 1\n.align 2\n.byte 2\nx:", ".byte 1\n.align 2");
    }

    /** A 43 with addend 0 is nothing, wherever it is. */
    private static void emptyFill() {
        ChainHouse x = units(START + "call _start\n.align 2\nnop");
        int rela = Check.number(x, 0, Check.number(x, 0, 32, 4) + 40 * 6 + 16, 4);
        Check.due("the 43", Check.number(x, 0, rela + 24 + 4, 1), 43);
        Check.put(x, 0, rela + 24 + 8, 4, 0);
        Check.linkAndLoad(x, 1, true);
        told(x, 65536, "c.jal 0x10000", "c.nop", "c.nop");
        Check.put(x, 0, rela + 24, 4, 3);
        Check.linkAndLoad(x, 1, true);
        Check.put(x, 0, rela + 24 + 8, 4, 2);
        Check.put(x, 0, rela + 24, 4, 4);
        Check.linkFault(x, 1, true, 7, 0, 2);
    }

    private static void due(ChainHouse x, int... bytes) {
        for (int k = 0; k < bytes.length; k++) {
            Check.due("byte " + k, x.peek(65536 + k), bytes[k]);
        }
    }

    private static void settle() {
        // all three are near 0 by the places at first; when they have become smaller DATA is nearer to 0 and the third is not
        ChainHouse x = linked(true, START + "la a0, d - 0x10000\nla a1, d - 0x10000 - 2068\nla a2, d - 0x10000 - 2069\n.data\n.word 0\nd: .word 1");
        told(x, 65536, "addi a0, zero, 20", "addi a1, zero, -2048", "auipc a2, 0xfffef", "addi a2, a2, 2039");
        Check.due("fixed", x.linked(3), 1);
        Check.due("saved", x.linked(4), 8);
        Check.linkFault(x, 2, true, 1, 1, -1);
        Check.due("fixed stays", x.linked(3), 1);
        Check.link(x, 1, false);
        Check.due("fixed without shrinking", x.linked(3), 0);
        Check.due("saved without shrinking", x.linked(4), 0);
    }

    private static void data() {
        ChainHouse x = linked(true, START + "nop\na: nop\nb:\n.data\n.word b - a, a - b + 10, b - a + 0x7fffffff\n.half b - a + 5, a - b\n.byte b - a, a - b, b - a + 254\n.rodata\n.word a, b - 4\n.text\n.word b + 1");
        int data = 65568;
        Check.due("word", word(x, data), 2);
        Check.due("word", word(x, data + 4), 8);
        Check.due("word wraps", word(x, data + 8), 0x80000001);
        Check.due("halves", word(x, data + 12), 0xfffe0007);
        Check.due("bytes", word(x, data + 16) & 0xffffff, 0x00fe02);
        Check.due("word", word(x, 65552), 65538);
        Check.due("word", word(x, 65556), 65536);
        Check.due("word in .text", word(x, 65540), 65541);
        // bytes that are not all in one plain piece
        ChainHouse y = units(START + "call _start\n.word _start\ncall _start\n.word _start");
        int rela = Check.number(y, 0, Check.number(y, 0, 32, 4) + 40 * 6 + 16, 4);
        Check.due("the first 1", Check.number(y, 0, rela + 24 + 4, 1), 1);
        for (int at : new int[] {0, 2, 7, 9, 11, 12, 19}) {
            Check.put(y, 0, rela + 24, 4, at);
            Check.linkFault(y, 1, true, 7, 0, 2);
        }
        Check.put(y, 0, rela + 24, 4, 20);
        Check.linkAndLoad(y, 1, true);
        // distances are as they are behind shrinking
        x = linked(true, START + "a: call f\nf: nop\nb:\n.data\n.byte b - a");
        Check.due("byte", x.peek(65552), 4);
    }

    private static void targets() {
        ChainHouse x = linked(true, START + "beq a0, a1, f\nbltu s0, s1, f + 2\nj f\njal t0, f\nc.j f\nc.jal f\nc.beqz a0, f\nc.bnez a5, f\nf: nop\nbgez a0, _start\nj _start");
        told(x, 65536, "beq a0, a1, 0x10018", "bltu s0, s1, 0x1001a", "jal zero, 0x10018", "jal t0, 0x10018", "c.j 0x10018", "c.jal 0x10018",
            "c.beqz a0, 0x10018", "c.bnez a5, 0x10018", "c.nop", "bge a0, zero, 0x10000", "jal zero, 0x10000");
        linked(true, START + "beq a0, a1, _start + 4094\nbne a0, a1, _start - 4092");
        fault(8, 0, 0, START + "beq a0, a1, _start + 4096");
        fault(8, 0, 0, START + "beq a0, a1, _start + 3");
        fault(8, 0, 0, START + "j _start + 0x100000");
        fault(8, 0, 0, START + "c.j _start + 2048");
        fault(8, 0, 0, START + "c.bnez a0, _start + 256");
        linked(true, START + "c.bnez a0, _start - 256\nc.j _start - 2046\njal _start - 0x100000 + 4");
        // D beyond an int
        fault(8, 0, 0, ".option norelax\n" + START + "call k\n.globl k\n.equ k, 0x80000000");
        fault(8, 0, 0, ".option norelax\n" + START + "la a0, k\n.globl k\n.equ k, 0x80000000");
        // relocations at one place are taken by their numbers
        ChainHouse z = units(START + "call f\nla a0, d\nf: nop\n.data\nd: .word 1");
        int rela = Check.number(z, 0, Check.number(z, 0, 32, 4) + 40 * 6 + 16, 4);
        Check.due("the 23", Check.number(z, 0, rela + 24 + 4, 1), 23);
        Check.put(z, 0, rela + 24, 4, 0);
        Check.put(z, 0, rela + 36, 4, 0);
        Check.linkFault(z, 1, true, 7, 0, 2);
        // words that are not of the kind
        String[] branches = {"beq a0, a1, _start", "jal _start", "c.beqz a0, _start", "c.j _start"};
        int[][] bad = {{0x13, 0x6f, 0x67, 0x03, 0xc101}, {0x13, 0x63, 0xa001}, {0xa001, 0x8082, 0x63}, {0xc101, 0x6f, 0x8082}};
        for (int k = 0; k < 4; k++) {
            for (int w : bad[k]) {
                ChainHouse b = units(START + "nop\n" + branches[k] + "\nnop");
                spoilText(b, 0, 2, w);
                Check.linkFault(b, 1, true, 7, 0, 0);
            }
        }
        // the word isn't of the kind: the second unit's relocation 0 is about another word
        ChainHouse y = units(START + "nop\nj _start");
        spoilText(y, 0, 2, 0x13);
        Check.linkFault(y, 1, true, 7, 0, 0);
        y = units(START + "nop\ncall _start");
        spoilText(y, 0, 2, 0x17 + (1 << 7), 0x13);
        Check.linkFault(y, 1, true, 7, 0, 0);
        y = units(START + ".option norelax\nnop\ncall _start");
        spoilText(y, 0, 2, 0x17 + (1 << 7), 0x13);
        Check.linkFault(y, 1, true, 7, 0, 0);
    }

    /** Puts words into unit u's .text from a place on. */
    private static void spoilText(ChainHouse x, int u, int at, int... words) {
        int begin = Check.number(x, u, Check.number(x, u, 32, 4) + 40 + 16, 4);
        for (int k = 0; k < words.length; k++) {
            Check.put(x, u, begin + at + 4 * k, 4, words[k]);
        }
        Check.due("check", x.check(u), 0);
    }

    private static void lows() {
        ChainHouse x = linked(true, ".option norelax\n" + START + "lui a0, %hi(d)\naddi a0, a0, %lo(d)\nsw a0, %lo(d + 4)(a0)\njalr a0, %lo(d)(a0)\n.data\nd: .word 1");
        told(x, 65536, "lui a0, 0x10", "addi a0, a0, 16", "sw a0, 20(a0)", "jalr a0, 16(a0)");
        x = linked(true, START + "lui a0, %hi(k)\nlw a0, %lo(k)(a0)\nsw a1, %lo(k)(a0)\n.globl k\n.equ k, -2048");
        told(x, 65536, "lui a0, 0x0", "lw a0, -2048(zero)", "sw a1, -2048(zero)");
        // words that are not of the kind: slli, and loads and stores exchanged
        for (int bad : new int[] {0x00051513, 0x00052023, 0x00000037, 0x00b50533, 0x0ff0000f}) {
            ChainHouse y = units(START + "nop\naddi a0, a0, %lo(d)\n.data\nd:");
            spoilText(y, 0, 2, bad);
            Check.linkFault(y, 1, true, 7, 0, 0);
        }
        for (int bad : new int[] {0x00052503, 0x00050513, 0x00b50533, 0x00051063}) {
            ChainHouse y = units(START + "nop\nsw a0, %lo(d)(a0)\n.data\nd:");
            spoilText(y, 0, 2, bad);
            Check.linkFault(y, 1, true, 7, 0, 0);
        }
        // all kinds that a 27 and a 28 can be about
        linked(true, START + "lb a0, %lo(d)(a0)\nlhu a0, %lo(d)(a0)\nandi a0, a0, %lo(d)\njalr a0, %lo(d)(a0)\nsb a0, %lo(d)(a0)\nsw a0, %lo(d)(a0)\n.data\nd:");
    }

    private static void nearLows() {
        ChainHouse x = linked(true, START + ".option norelax\n1: auipc a0, %pcrel_hi(d + 4)\naddi a1, a0, %pcrel_lo(1b)\nsw a1, %pcrel_lo(1b)(a0)\nlw a2, %pcrel_lo(1b)(a0)\n.data\nd: .word 1");
        told(x, 65536, "auipc a0, 0x0", "addi a1, a0, 20", "sw a1, 20(a0)", "lw a2, 20(a0)");
        x = linked(true, START + "1: auipc a0, %pcrel_hi(d + 4)\naddi a1, a0, %pcrel_lo(1b)\nsw a1, %pcrel_lo(1b)(a0)\nlw a2, %pcrel_lo(1b)(a0)\n.data\nd: .word 1");
        told(x, 65536, "addi a1, gp, -2044", "sw a1, -2044(gp)", "lw a2, -2044(gp)");
        // no 23 there
        fault(7, 0, 0, START + "1: nop\naddi a0, a0, %pcrel_lo(1b)");
        // in another section, another unit, absolute
        fault(7, 0, 0, START + "addi a0, a0, %pcrel_lo(d)\n.data\nd: .word 1");
        fault(7, 0, 0, START + "addi a0, a0, %pcrel_lo(g)", ".globl g\ng: la a0, g");
        fault(7, 0, 0, START + "addi a0, a0, %pcrel_lo(g)\n.globl g\n.equ g, 0");
        fault(7, 0, 4, START + "la a0, d\naddi a0, a0, %pcrel_lo(g)\n.data\nd: .word 1", ".globl g\ng: nop");
        fault(7, 0, 4, START + "la a0, d\naddi a0, a0, %pcrel_lo(d)\n.data\nd: .word 1");
        // another addend than 0
        ChainHouse y = units(START + "la a0, d\n.data\nd: .word 1");
        y.check(0);
        int rela = Check.number(y, 0, Check.number(y, 0, 32, 4) + 40 * 6 + 16, 4);
        Check.due("the 24", Check.number(y, 0, rela + 24 + 4, 1), 24);
        Check.put(y, 0, rela + 24 + 8, 4, 4);
        Check.linkFault(y, 1, true, 7, 0, 2);
        // a global of its own .text will do
        linked(true, ".globl h\n" + START + "h: auipc a0, %pcrel_hi(d)\naddi a0, a0, %pcrel_lo(h)\n.data\nd: .word 1");
    }

    private static void rooms() {
        StringBuilder commons = new StringBuilder();
        for (int k = 0; k < 8; k++) {
            commons.append(".comm c").append(k).append(", 4, 4\n");
        }
        String[] six = {START + "nop\n" + commons, "nop", "nop", "nop", "nop", "nop"};
        linked(true, six);
        six[5] = ".comm d, 1, 1";
        fault(6, -1, -1, six);
        // 256 pieces: the .text has as many calls, other sections 7 pieces
        String calls = "call f\n".repeat(124);
        linked(true, START + "f: " + calls, ".globl f\n" + calls + "f: nop");
        String more = "call f\n".repeat(125);
        linked(true, START + "f: " + more, ".globl f\n" + calls + "f: nop");
        fault(6, -1, -1, START + "f: " + more, ".globl f\n" + more + "f: nop");
        StringBuilder labels = new StringBuilder();
        for (int k = 0; k < 64; k++) {
            labels.append("lab").append(k).append(": call lab").append(k).append("\n");
        }
        linked(true, START + labels, "nop");
        fault(6, -1, -1, START + labels, "y: la a0, y");
        linked(true, START + "nop\n.data\n.zero 2048", ".data\n.zero 2048");
        fault(6, -1, -1, START + "nop\n.data\n.zero 2048", ".data\n.zero 2048", ".data\n.byte 1");
        fault(6, -1, -1, START + "nop\n.zero 2046", ".zero 2048", "nop");
        fault(6, -1, -1, START + "nop\n.rodata\n.zero 2048", ".rodata\n.zero 2048", ".rodata\n.byte 1");
        StringBuilder big = new StringBuilder();
        for (int k = 0; k < 8; k++) {
            big.append(".comm c").append(k).append(", 4096, 1\n");
        }
        linked(true, START + "nop\n" + big);
        fault(6, -1, -1, START + "nop\n" + big + ".bss\n.zero 1");
    }

    private static void images() {
        // 9: an image without bytes, with an odd number of them, a mark that goes beyond the next one
        fault(9, -1, -1, START);
        fault(9, -1, -1, START + ".byte 1\n.byte 1\n.byte 1");
        fault(9, -1, -5, START + ".word 1\nnop");
        ChainHouse x = units(START + "nop\nnop");
        spoilText(x, 0, 0, 0x00010013);
        Check.linkFault(x, 1, true, 9, -1, -4);
        x = linked(true, START + "nop\n.bss\n.zero 3");
        Check.due("segments and NOTE", Check.number(x, -1, 44, 2), 3);
        x = linked(true, START + "nop\n.rodata\n.byte 1");
        Check.due("gp without DATA", x.get(3), 0);
        Check.due("rights of CONST", x.rights(65552), 1);
        Check.due("sp", x.get(2), 131056);
        // a start at an odd place is no mark
        x = units(START + "nop\n.byte 1\n.align 1\n.byte 1\nf: nop\nnop");
        int begin = Check.number(x, 0, Check.number(x, 0, 32, 4) + 40 + 16, 4);
        Check.due("bytes", begin, 52);
        Check.linkAndLoad(x, 1, true);
        Check.due("rights", x.rights(65536), 13);
    }
}
