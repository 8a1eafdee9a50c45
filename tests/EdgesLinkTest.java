import java.util.ArrayList;
import java.util.List;

/** Sections 4 and 8, sentence by sentence: LEAST sizes at both ends, what is FIXED, what is put in at both ends of what fits, and the LINK FAULTS in their order. */
public final class EdgesLinkTest {
    private static final String START = ".globl _start\n_start: ";
    private static final int BASE = 65536;

    public static void main(String[] args) {
        sets();
        unitFaults();
        globals();
        globalFaults();
        specialNames();
        commons();
        manyGlobals();
        calls();
        nears();
        uppers();
        twos();
        nowhere();
        fixed();
        fillEnds();
        pieceOrder();
        pieceFaults();
        roomFaults();
        outputRooms();
        targets();
        callWords();
        upperWords();
        lowWords();
        nearLowWords();
        wrongWords();
        unitsAndNumbers();
        places();
        dataNumbers();
        marks();
        padding();
        orderOfRelocations();
        again();
        stays();
        Check.end();
    }

    private static ChainHouse units(String... texts) {
        ChainHouse x = new ChainHouse();
        for (int u = 0; u < texts.length; u++) {
            int n = Check.assemble(x, u, texts[u]);
            Check.due("unit " + u + " has no fault (" + x.fault(0) + " at " + x.fault(1) + ")", n > 0, true);
        }
        return x;
    }

    private static void fault(int fault, int unit, int number, String... texts) {
        for (int shrinks = 0; shrinks < 2; shrinks++) {
            Check.linkFault(units(texts), (1 << texts.length) - 1, shrinks == 1, fault, unit, number);
        }
    }

    private static ChainHouse linked(boolean shrinks, String... texts) {
        ChainHouse x = units(texts);
        Check.linkAndLoad(x, (1 << texts.length) - 1, shrinks);
        return x;
    }

    private static void told(ChainHouse x, int at, String... texts) {
        int place = at;
        for (String text : texts) {
            Check.due("the text at " + place, Check.told(x, place), text);
            place += (x.peek(place) & 3) == 3 ? 4 : 2;
        }
    }

    private static int word(ChainHouse x, int at) {
        return x.peek(at) | x.peek(at + 1) << 8 | x.peek(at + 2) << 16 | x.peek(at + 3) << 24;
    }

    /** Where a part of unit u's FILE begins: of an entry with this sort, and this number at a place of it. */
    private static int part(ChainHouse x, int u, int sort, int at, int number) {
        int table = Check.number(x, u, 32, 4);
        for (int e = 1; e < Check.number(x, u, 48, 2); e++) {
            int row = table + 40 * e;
            if (Check.number(x, u, row + 4, 4) == sort && Check.number(x, u, row + at, 4) == number) {
                return Check.number(x, u, row + 16, 4);
            }
        }
        throw new IllegalStateException("no such part");
    }

    private static int rela(ChainHouse x, int u, int section) {
        return part(x, u, 4, 28, section + 1);
    }

    private static int starts(ChainHouse x, int u) {
        return part(x, u, 1, 36, 2);
    }

    private static int text(ChainHouse x, int u) {
        return part(x, u, 1, 8, 6);
    }

    /** Puts a relocation's place, kind (with the symbol as it is) and addend. */
    private static void move(ChainHouse x, int row, int place) {
        Check.put(x, 0, row, 4, place);
    }

    private static void swap(ChainHouse x, int a, int b) {
        for (int k = 0; k < 12; k++) {
            int was = x.byteAt(0, a + k);
            x.spoil(0, a + k, x.byteAt(0, b + k));
            x.spoil(0, b + k, was);
        }
    }

    private static void sets() {
        ChainHouse x = units(START + "nop", START + "nop\nnop", "nop", "nop", "nop", START + "nop\nnop\nnop");
        for (int set : new int[] {0, -1, 64, 65, 128, 2147483647, -2147483648, -64}) {
            Check.due("link of " + set, Check.link(x, set, true), Check.ARGUMENT);
        }
        Check.due("linked(0)", x.linked(0), 0);
        Check.due("no IMAGE", x.size(-1), 0);
        int[] good = {1, 2, 32, 1 | 4, 4 | 32, 28 | 32, 29};
        for (int set : good) {
            Check.due("link of " + set, Check.link(x, set, true), x.size(-1));
        }
        Check.linkFault(x, 63, true, 3, 1, 0);
        Check.linkFault(x, 1 | 32, true, 3, 5, 0);
        Check.linkFault(x, 28, true, 5, -1, -1);
        for (int what : new int[] {-1, 5, 6, 2147483647, -2147483648}) {
            Check.due("linked", x.linked(what), -1);
        }
    }

    /** 1 and 2: of each UNIT 1, then 2. */
    private static void unitFaults() {
        String[] good = {START + "nop", "nop", "nop", "nop", "nop", "nop"};
        for (int u = 0; u < 6; u++) {
            ChainHouse x = units(good);
            x.cut(u, 0);
            Check.linkFault(x, 63, true, 1, u, -1);
            x = units(good);
            x.cut(u, 51);
            Check.linkFault(x, 63, true, 2, u, 1);
            x = units(good);
            x.spoil(u, 18, 0);
            Check.linkFault(x, 63, true, 2, u, 8);
            x = units(good);
            x.spoil(u, 36, 0);
            Check.linkFault(x, 63, true, 2, u, 34);
            if (u < 5) {
                x = units(good);
                x.cut(u, 0);
                x.spoil(u + 1, 18, 0);
                Check.linkFault(x, 63, true, 1, u, -1);
                x = units(good);
                x.spoil(u, 18, 0);
                x.cut(u + 1, 0);
                Check.linkFault(x, 63, true, 2, u, 8);
                Check.due("without them", Check.link(x, 63 & ~(3 << u), true) > 0, u > 0);
            }
        }
        // the UNIT is told by its number, whatever else is linked
        ChainHouse x = new ChainHouse();
        Check.assemble(x, 2, START + "nop\n.globl q\nq:");
        Check.assemble(x, 5, "a: b: .globl q\nq:");
        Check.linkFault(x, 36, true, 3, 5, 2);
        Check.assemble(x, 5, "a: b: .word y");
        Check.linkFault(x, 36, true, 4, 5, 2);
        Check.assemble(x, 5, "nop\nbeq a0, a1, _start + 1\n");
        Check.linkFault(x, 36, true, 8, 5, 0);
    }

    /** What a name is DEFINED as: global ahead of common ahead of weak, the first of them, in each order of UNITS. */
    private static void globals() {
        String global = ".data\n.word 1\n.globl q\nq: .word 2";
        String absolute = ".globl q\n.equ q, 77";
        String common = ".comm q, 8, 8";
        String weak = ".data\n.word 3, 4\n.weak q\nq: .word 5";
        String weakAbsolute = ".weak q\n.equ q, 88";
        String needed = ".data\n.word q";
        String weakNeeded = ".weak q\n.data\n.word q";
        String start = START + "nop\n.data\n.word 9";
        int data = BASE + 16;
        Object[][] rows = {
            {data + 8, global, common, weak}, {data + 12, weak, global, common}, {data + 8 + 4, common, weak, global, needed},
            {77, absolute, common, weak}, {77, common, weak, absolute}, {77, weak, weakAbsolute, absolute}, {data + 4 + 8, weak, weakAbsolute}, {88, weakAbsolute, weak},
            {88, weakNeeded, weakAbsolute, needed}, {data + 12, weak, needed}, {0, weakNeeded}, {0, weakNeeded, weakNeeded}};
        for (Object[] row : rows) {
            String[] texts = new String[row.length];
            texts[0] = start;
            for (int k = 1; k < row.length; k++) {
                texts[k] = (String) row[k];
            }
            ChainHouse x = linked(true, texts);
            int want = (Integer) row[0];
            if (row[1] == weak && row[2] == global) {
                want = data + 4 + 12 + 4;
            }
            if (row[1] == common && row[2] == weak) {
                want = row[3] == global ? data + 4 + 12 + 4 : want;
            }
            Check.due("where q of " + row.length + " units, " + row[1], Check.where(x, "q"), want);
        }
        // common ahead of weak: behind .data, by its alignment
        ChainHouse x = linked(true, start, weak, common);
        Check.due("where q", Check.where(x, "q"), data + 16);
        // a local one of the same name is another
        x = linked(true, START + "nop\nq: nop\n.data\n.word q", ".globl q\nq: nop\n.data\n.word q");
        Check.due("where q", Check.where(x, "q"), BASE + 4);
        Check.due("the local one", word(x, data), BASE + 2);
        Check.due("the other one", word(x, data + 4), BASE + 4);
        // a symbol that isn't local is what its name is DEFINED as, a weak one with a place, too
        x = linked(true, START + "nop\n.data\n.weak q\nq: .word q", ".globl q\n.data\nq: .word q");
        Check.due("the weak one", word(x, data), data + 4);
        Check.due("the global one", word(x, data + 4), data + 4);
        // any value of an absolute one
        for (int v : new int[] {0, 1, -1, 0x7fffffff, 0x80000000}) {
            x = linked(true, START + "nop\n.globl k\n.equ k, " + v + "\n.word k");
            Check.due("where k", Check.where(x, "k"), v);
            Check.due("k", word(x, BASE + 2), v);
        }
    }

    /** 3, 4 and 5. */
    private static void globalFaults() {
        fault(3, 1, 1, START + "nop\n.globl a\na:", "l: .globl a\na:");
        fault(3, 2, 0, START + "nop\n.globl a\na:", "nop", ".globl a\na:");
        fault(3, 1, 0, START + "nop\n.globl a\n.equ a, 1", ".globl a\n.data\na:");
        fault(3, 1, 0, START + "nop\n.globl a\n.bss\na:", ".globl a\n.equ a, 1");
        fault(3, 1, 0, START + "nop\n.globl a\na: .globl b\nb:", ".globl b\nb:\n.globl a\na:");
        // common, weak and nowhere are none
        linked(true, START + "nop\n.globl a\na:", ".comm a, 1, 1", ".weak a\na:", ".word a", ".comm a, 4096, 64");
        linked(true, START + "nop\n.weak a\na:", ".weak a\na:", ".weak a\n.equ a, 1");
        // 3 ahead of 4, wherever they are
        fault(3, 1, 0, START + "j none\n.globl a\na:", ".globl a\na:");
        fault(4, 0, 1, START + "j none");
        fault(4, 0, 1, START + "j none", ".word none, other");
        fault(4, 1, 0, START + ".weak none\nla a0, none", ".word none");
        // symbols are numbered as they are READ: the hidden one of la, which is local, is the first
        fault(4, 0, 3, START + ".weak none\nla a0, none\n.word other", ".word none");
        fault(4, 0, 1, START + "j none\n.weak other", ".word other, none");
        fault(4, 0, 1, START + "j __end\n.weak _end");
        linked(true, START + ".weak none\nla a0, none", ".weak none\n.word none");
        // 4 ahead of 5
        fault(4, 0, 0, "j none");
        fault(4, 0, 0, "j _start");
        fault(5, -1, -1, "nop");
        fault(5, -1, -1, "_start: nop");
        fault(5, -1, -1, "nop\n.weak _start");
        fault(5, -1, -1, "nop\n.comm _start, 4, 4");
        fault(5, -1, -1, "nop\n.globl _start\n.equ _start, 65536");
        for (String section : new String[] {".data", ".rodata", ".bss"}) {
            fault(5, -1, -1, "nop\n.globl _start\n" + section + "\n_start: .zero 4");
        }
        linked(true, "nop\n.weak _start\n_start: nop");
        // 5 ahead of 7 and 6
        String labels = labels(65);
        fault(5, -1, -1, "nop\n" + labels);
        // the weak one in a .text doesn't count when there is another
        fault(5, -1, -1, ".weak _start\n_start: nop", ".comm _start, 4, 4");
    }

    private static String labels(int n) {
        StringBuilder s = new StringBuilder();
        for (int k = 0; k < n; k++) {
            s.append("q").append(k).append(":call q").append(k).append("\n");
        }
        return s.toString();
    }

    /** _gp, _etext, _edata, _bss and _end, when nothing else DEFINES them. */
    private static void specialNames() {
        String all = ".data\n.word _gp, _etext, _edata, _bss, _end\n";
        ChainHouse x = linked(true, START + "nop\n" + all + ".byte 1\n.text\nnop\nnop", ".bss\n.align 3\n.zero 5\n.rodata\n.byte 1");
        int data = BASE + 32;
        int[] want = {data + 2048, BASE + 8, data + 21, data + 21, data + 24 + 5};
        String[] names = {"_gp", "_etext", "_edata", "_bss", "_end"};
        for (int k = 0; k < 5; k++) {
            Check.due(names[k], word(x, data + 4 * k), want[k]);
            Check.due(names[k], Check.where(x, names[k]), want[k]);
        }
        // nothing behind TEXT
        x = linked(true, START + "nop\nnop\n.weak _gp\n.weak _etext\n.weak _edata\n.weak _bss\n.weak _end");
        int[] empty = {BASE + 16 + 2048, BASE + 4, BASE + 16, BASE + 16, BASE + 16};
        for (int k = 0; k < 5; k++) {
            Check.due(names[k], Check.where(x, names[k]), empty[k]);
        }
        // they are GLOBALS when a symbol has the name alone
        x = linked(true, START + "nop\n.word _gp");
        for (int k = 1; k < 5; k++) {
            Check.due(names[k], Check.where(x, names[k]), Check.ELEMENT);
        }
        for (int k = 0; k < 5; k++) {
            x = linked(true, START + "nop\n.word " + names[k], ".weak " + names[k] + "\n.equ " + names[k] + ", 5");
            Check.due(names[k], Check.where(x, names[k]), 5);
            x = linked(true, START + "nop\n.word " + names[k], ".comm " + names[k] + ", 4, 4");
            Check.due(names[k], Check.where(x, names[k]), BASE + 16);
        }
    }

    /** Common GLOBALS: the greatest size and alignment, in OUTPUT 3, as they are first named. */
    private static void commons() {
        ChainHouse x = linked(true, ".comm a, 3, 1\n.word b\n" + START + "nop\n.comm c, 5, 8\n.data\n.word a, b, c, d", ".comm d, 2, 2\n.comm b, 4, 4\n.comm a, 2, 16\n.bss\n.zero 3");
        int data = BASE + 16;
        // .data has 16 bytes, the .bss parts 0 and 3; then a, b, c, d
        int end = data + 16 + 3;
        int a = (end + 15) / 16 * 16;
        int b = a + 3 + 1;
        int c = (b + 4 + 7) / 8 * 8;
        int d = c + 5 + 1;
        int[] want = {a, b, c, d};
        for (int k = 0; k < 4; k++) {
            Check.due("word " + k, word(x, data + 4 * k), want[k]);
            Check.due("where", Check.where(x, "" + (char) ('a' + k)), want[k]);
        }
        Check.due("the last byte", x.rights(d + 1), 3);
        Check.due("behind it", x.rights(d + 2), 0);
        // a LABEL at its beginning: an even way, and near GP
        x = linked(true, START + "call a\nla a0, b\nla a1, b + 4089\nla a1, b + 4090\n.comm a, 6, 2\n.comm b, 1, 2");
        Check.due("where a", Check.where(x, "a"), BASE + 32);
        Check.due("where b", Check.where(x, "b"), BASE + 38);
        Check.due("saved", x.linked(4), 4 + 4 + 4);
        told(x, BASE, "jal ra, 0x10020", "addi a0, gp, -2042", "addi a1, gp, 2047", "auipc a1, 0x1");
        x = linked(true, START + "la a1, b + 4095\nla a1, b + 4096\n.comm b, 1, 16");
        told(x, BASE, "addi a1, gp, 2047", "auipc a1, 0x1");
    }

    /** Many GLOBALS: each UNIT's symbols have other names. */
    private static void manyGlobals() {
        ChainHouse x = new ChainHouse();
        int each = 86;
        for (int u = 0; u < 6; u++) {
            StringBuilder s = new StringBuilder(u == 0 ? START + "nop\n" : "");
            for (int k = 0; k < each; k++) {
                s.append(".weak ").append(manyName(u, k)).append("\n");
            }
            Check.due("assemble", Check.assemble(x, u, s.toString()) > 0, true);
        }
        Check.due("link", Check.link(x, 63, true) > 0, true);
        Check.due("where", Check.where(x, "_start"), BASE);
        Check.due("where", Check.where(x, manyName(0, 0)), 0);
        Check.due("where", Check.where(x, manyName(5, each - 1)), 0);
        Check.due("where", Check.where(x, manyName(5, each)), Check.ELEMENT);
    }

    /** Two letters, none of a register. */
    private static String manyName(int u, int k) {
        return (char) ('A' + u) + "" + (char) (k < 26 ? 'a' + k : k < 52 ? 'A' + k - 26 : k < 62 ? '0' + k - 52 : k == 62 ? '_' : '$') + (k > 63 ? "" + (char) ('a' + k - 64) : "");
    }

    /** CALL: d of -2048 to 2046 (TWO), of -1,048,576 to 1,048,574, even; and beyond. */
    private static void calls() {
        Object[][] rows = {{0, 2}, {2, 2}, {2044, 2}, {2046, 2}, {2048, 4}, {2050, 4}, {-2, 2}, {-2046, 2}, {-2048, 2}, {-2050, 4}, {1, 8}, {-1, 8}, {2047, 8}, {-2047, 8}, {2045, 8},
            {1048572, 4}, {1048574, 4}, {1048576, 8}, {1048575, 8}, {1048573, 8}, {-1048574, 4}, {-1048576, 4}, {-1048578, 8}, {-1048577, 8}, {0x7ffe0000, 8}, {-0x7ffe0000, 8}};
        for (Object[] row : rows) {
            int d = (Integer) row[0];
            int bytes = (Integer) row[1];
            for (String kind : new String[] {"call", "tail"}) {
                String one = kind + " _start + " + d;
                String to = "0x" + Integer.toHexString(BASE + d);
                String register = kind.equals("call") ? "ra" : "zero";
                ChainHouse x = linked(true, START + one + "\nc.nop");
                Check.due("saved by " + one, x.linked(4), 8 - bytes);
                told(x, BASE, bytes == 2 ? (kind.equals("call") ? "c.jal " : "c.j ") + to : bytes == 4 ? "jal " + register + ", " + to : "auipc " + (kind.equals("call") ? "ra" : "t1") + ", 0x" + Integer.toHexString(d + 2048 >>> 12 & 0xfffff));
                if (bytes == 8) {
                    told(x, BASE + 4, "jalr " + register + ", " + (d << 20 >> 20) + (kind.equals("call") ? "(ra)" : "(t1)"));
                }
                // without a SHORT START there is no TWO
                x = linked(true, ".option norvc\n" + START + one + "\nnop");
                Check.due("saved by " + one, x.linked(4), bytes == 8 ? 0 : 4);
                // without SHRINKING, and without a 51
                x = linked(false, START + one + "\nc.nop");
                Check.due("saved by " + one, x.linked(4), 0);
                told(x, BASE + 4, "jalr " + register + ", " + (d << 20 >> 20) + (kind.equals("call") ? "(ra)" : "(t1)"));
                x = linked(true, ".option norelax\n" + START + one + "\nc.nop");
                Check.due("saved by " + one, x.linked(4), 0);
                Check.due("FIXED", x.linked(3), 0);
            }
        }
    }

    /** NEAR: the AIM, or the AIM less GP, of -2048 to 2047. */
    private static void nears() {
        for (int v : new int[] {-2050, -2049, -2048, -2047, -1, 0, 1, 2046, 2047, 2048, 2049}) {
            boolean near = v >= -2048 && v <= 2047;
            ChainHouse x = linked(true, START + "la a0, _start - 65536 + " + v);
            Check.due("saved by an AIM of " + v, x.linked(4), near ? 4 : 0);
            told(x, BASE, near ? "addi a0, zero, " + v : "auipc a0, 0x" + Integer.toHexString(v - BASE + 2048 >>> 12));
            // OUTPUT 2 begins at BASE + 16
            x = linked(true, START + "la a0, _start + " + (16 + 2048 + v));
            Check.due("saved by " + v + " from GP", x.linked(4), near ? 4 : 0);
            told(x, BASE, near ? "addi a0, gp, " + v : "auipc a0, 0x" + (16 + 2048 + v + 2048 >> 12));
            for (String access : new String[] {"lw a0, d + #", "sw a0, d + #, t0", "lbu a0, d + #"}) {
                x = linked(true, START + access.replace("#", "" + (2048 + v)) + "\n.data\nd: .word 1");
                Check.due("saved by " + v + " from GP", x.linked(4), near ? 4 : 0);
                String name = access.substring(0, access.indexOf(' '));
                told(x, BASE + (near ? 0 : 4), name + " a0, " + (near ? v : 16 + 2048 + v << 20 >> 20) + (near ? "(gp)" : access.startsWith("s") ? "(t0)" : "(a0)"));
            }
            x = linked(false, START + "la a0, d + " + (2048 + v) + "\n.data\nd: .word 1");
            Check.due("saved without SHRINKING", x.linked(4), 0);
        }
    }

    /** UPPER: 0 by the AIM or the AIM less GP, 2 for 1 to 31, else 4. */
    private static void uppers() {
        int[][] rows = {{-2050, 4}, {-2049, 4}, {-2048, 0}, {-1, 0}, {0, 0}, {2047, 0}, {2048, 2}, {2049, 2}, {6143, 2}, {6144, 2}, {126975, 2}, {126976, 2}, {129023, 2}, {129024, 4}, {129025, 4}, {-4097, 4}, {-0x20000, 4},
            {0x7fffe7ff, 4}, {0x10000 + 15, 2}, {0x10000 + 16, 0}, {0x10000 + 16 + 4095, 0}, {0x10000 + 16 + 4096, 2}};
        for (int[] row : rows) {
            int v = row[0];
            String one = "lui a0, %hi(_start - 65536 + " + v + ")\naddi a0, a0, %lo(_start - 65536 + " + v + ")";
            ChainHouse x = linked(true, START + one + "\nc.nop");
            Check.due("saved by an AIM of " + v, x.linked(4), 4 - row[1]);
            String upper = "0x" + Integer.toHexString(v + 2048 >>> 12 & 0xfffff);
            if (row[1] > 0) {
                told(x, BASE, (row[1] == 2 ? "c.lui a0, " : "lui a0, ") + upper, "addi a0, a0, " + (v << 20 >> 20));
            } else {
                boolean zero = v >= -2048 && v <= 2047;
                told(x, BASE, zero ? "addi a0, zero, " + v : "addi a0, gp, " + (v - BASE - 16 - 2048));
            }
            x = linked(true, ".option norvc\n" + START + one);
            Check.due("saved without TWO", x.linked(4), row[1] == 0 ? 4 : 0);
            x = linked(false, START + one + "\nc.nop");
            Check.due("saved without SHRINKING", x.linked(4), 0);
            told(x, BASE, "lui a0, " + upper, "addi a0, a0, " + (v << 20 >> 20));
        }
    }

    /** TWO: a START of the UNIT is SHORT; the d of an UPPER is not 0 or 2, that of a CALL's second word is 0 or 1. */
    private static void twos() {
        String[] registers = ("zero ra sp gp tp t0 s0 a0 t6").split(" ");
        for (String r : registers) {
            boolean two = !r.equals("zero") && !r.equals("sp");
            ChainHouse x = linked(true, START + "lui " + r + ", %hi(_start)\nc.nop");
            Check.due("saved by lui " + r, x.linked(4), two ? 2 : 0);
            told(x, BASE, (two ? "c.lui " : "lui ") + r + ", 0x10");
        }
        for (int d = 0; d < 32; d++) {
            ChainHouse x = units(START + "call _start\nc.nop");
            int at = text(x, 0) + 4;
            Check.put(x, 0, at, 4, Check.number(x, 0, at, 4) & ~0xf80 | d << 7);
            Check.linkAndLoad(x, 1, true);
            Check.due("saved by a CALL with d " + d, x.linked(4), d <= 1 ? 6 : 4);
            String name = ("zero ra sp gp tp t0 t1 t2 s0 s1 a0 a1 a2 a3 a4 a5 a6 a7 s2 s3 s4 s5 s6 s7 s8 s9 s10 s11 t3 t4 t5 t6").split(" ")[d];
            told(x, BASE, d == 0 ? "c.j 0x10000" : d == 1 ? "c.jal 0x10000" : "jal " + name + ", 0x10000");
        }
        // of each UNIT by itself
        ChainHouse x = linked(true, START + "call f\nc.nop", ".option norvc\n.globl f\nf: call f\nnop");
        told(x, BASE, "c.jal 0x10004", "c.nop", "jal ra, 0x10004");
        // a short word that is no START is none
        x = linked(true, START + ".option norvc\ncall f\nf: nop\n.half 1, 1");
        told(x, BASE, "jal ra, 0x10004");
    }

    /** Without a VALUE there is no AIM: absolute symbols, weak ones as 0, the linker's own names. */
    private static void nowhere() {
        for (String name : new String[] {"k", "w", "_gp", "_end", "_etext", "_bss", "_edata"}) {
            String more = "\nc.nop\n.globl k\n.equ k, 65540\n.weak w";
            ChainHouse x = linked(true, START + "call " + name + more);
            Check.due("saved by call " + name, x.linked(4), 0);
            x = linked(true, START + "la a0, " + name + more);
            Check.due("saved by la " + name, x.linked(4), 0);
            x = linked(true, START + "lui a0, %hi(" + name + ")" + more);
            Check.due("saved by lui " + name, x.linked(4), 0);
        }
        ChainHouse x = linked(true, START + "call k\nc.nop\n.equ k, 65540");
        Check.due("saved by a local absolute one", x.linked(4), 0);
        // 27 and 28 have the number itself
        x = linked(true, START + "lw a0, %lo(w)(a1)\nsw a0, %lo(k)(a1)\naddi a0, a0, %lo(_gp)\n.weak w\n.equ k, 2047");
        told(x, BASE, "lw a0, 0(zero)", "sw a0, 2047(zero)", "addi a0, gp, 0");
    }

    /** What does not HOLD gets its greatest size, all by the same places; then all shrink again. */
    private static void fixed() {
        // the first piece of all
        ChainHouse x = linked(true, START + "la a2, d - 0x10000 - 2069\nla a1, d - 0x10000 - 2068\nla a0, d - 0x10000\n.data\n.word 0\nd: .word 1");
        told(x, BASE, "auipc a2, 0xfffef", "addi a2, a2, 2047", "addi a1, zero, -2048", "addi a0, zero, 20");
        Check.due("FIXED", x.linked(3), 1);
        Check.due("saved", x.linked(4), 8);
        // two don't HOLD, that moves DATA up, and the third does not HOLD then; those that are FIXED stay so
        x = linked(true, START + "la a0, d - 0x10000 - 2070\nla a1, d - 0x10000 - 2070\nla a2, d - 0x10000 + 2020\n.data\nd: .word 1");
        Check.due("FIXED", x.linked(3), 3);
        Check.due("saved", x.linked(4), 0);
        told(x, BASE, "auipc a0, 0xffff0", "addi a0, a0, -2038");
        // without the third: both have their greatest size, though by the places at last they would be near
        x = linked(true, START + "la a0, d - 0x10000 - 2070\nla a1, d - 0x10000 - 2070\nc.nop\nc.nop\n.data\nd: .word 1");
        Check.due("FIXED", x.linked(3), 2);
        Check.due("saved", x.linked(4), 0);
        // one of them alone
        x = linked(true, START + "la a0, d - 0x10000 - 2070\nc.nop\nc.nop\nc.nop\nc.nop\nc.nop\nc.nop\n.data\nd: .word 1");
        Check.due("FIXED", x.linked(3), 1);
        Check.due("saved", x.linked(4), 0);
        Check.linkFault(x, 3, true, 1, 1, -1);
        Check.due("FIXED stays with a FAULT", x.linked(3), 1);
        Check.link(x, 1, false);
        Check.due("without SHRINKING", x.linked(3), 0);
    }

    /** FILLS: as many bytes as lack, their own at most; 8 when more lack. */
    private static void fillEnds() {
        for (int n = 0; n <= 6; n++) {
            for (int at = 0; at <= 10; at += 2) {
                ChainHouse x = linked(true, START + "nop\n.zero " + at + "\n.align " + n + "\n.globl q\nq: nop");
                int multiple = Math.max(2, 1 << n);
                Check.due("where q", Check.where(x, "q"), (BASE + 2 + at + multiple - 1) / multiple * multiple);
                x = linked(false, START + "nop\n.zero " + at + "\n.align " + n + "\n.globl q\nq: nop");
                Check.due("where q", Check.where(x, "q"), (BASE + 2 + at + multiple - 1) / multiple * multiple);
            }
        }
        // the least power of two above its bytes: by an altered addend
        int[][] rows = {{2, 4}, {4, 8}, {6, 8}, {8, 16}, {10, 16}, {12, 16}, {14, 16}};
        for (int[] row : rows) {
            for (int before = 0; before < 16; before += 2) {
                ChainHouse x = units(START + "nop\n.zero " + before + "\n.align 4\n.zero 2");
                int at = rela(x, 0, 0);
                Check.due("the 43", x.byteAt(0, at + 4), 43);
                Check.put(x, 0, at + 8, 4, row[0]);
                int lack = -(2 + before) & row[1] - 1;
                if (lack > row[0]) {
                    Check.linkFault(x, 1, true, 8, 0, 0);
                    Check.linkFault(x, 1, false, 8, 0, 0);
                } else {
                    Check.linkAndLoad(x, 1, true);
                    Check.due("TEXT's bytes", Check.number(x, -1, 52 + 16, 4), 2 + before + lack + 14 - row[0] + 2);
                }
            }
        }
        // an odd place: one byte lacks, three lack
        fault(8, 0, 0, START + "nop\n.byte 1\n.zero 2\n.align 2\n.byte 1, 2");
        ChainHouse x = linked(true, START + "nop\n.byte 3\n.align 2\n.byte 9, 8");
        Check.due("the byte that lacks", x.peek(BASE + 3), 1);
        // the first of two; in the second UNIT
        fault(8, 1, 0, START + "nop", "nop\n.byte 1, 2, 3\n.align 2\n.byte 1\n.align 2");
        fault(8, 1, 0, START + "nop", "nop\n.byte 1, 2, 3\n.align 2\n.byte 1,2,3\nx: .word x");
        // 8 ahead of 6 of the OUTPUTS, behind 7 of the pieces
        fault(8, 0, 0, START + "nop\n.byte 1, 2, 3\n.align 2\n.byte 1\n.zero 2000", ".zero 2048", ".zero 2048");
    }

    /** Pieces are taken by rising places, whatever the relocations' numbers; alike by numbers; a 51 may have any number. */
    private static void pieceOrder() {
        String text = START + "call f\nla a0, d\nc.nop\nf: nop\n.data\nd: .word 1";
        ChainHouse x = units(text);
        int at = rela(x, 0, 0);
        // 19, 51, 23, 51, 24, 51
        swap(x, at, at + 24);
        Check.due("the 23 is the first", x.byteAt(0, at + 4), 23);
        Check.linkAndLoad(x, 1, true);
        told(x, BASE, "c.jal 0x10008", "addi a0, gp, -2048", "c.nop", "c.nop");
        Check.due("saved", x.linked(4), 10);
        // three that stand the other way round
        x = units(START + "call f\nla a0, d\ncall f\nc.nop\nf: nop\n.data\nd: .word 1");
        // 19, 51, 23, 51, 24, 51, 19, 51
        at = rela(x, 0, 0);
        swap(x, at, at + 72);
        Check.linkAndLoad(x, 1, true);
        Check.due("saved", x.linked(4), 16);
        told(x, BASE, "c.jal 0x1000a", "addi a0, gp, -2048", "c.jal 0x1000a", "c.nop", "c.nop");
        // a 51 as the first relocation
        x = units(text);
        at = rela(x, 0, 0);
        swap(x, at, at + 12);
        Check.due("the 51 is the first", x.byteAt(0, at + 4), 51);
        Check.linkAndLoad(x, 1, true);
        Check.due("saved", x.linked(4), 10);
        told(x, BASE, "c.jal 0x10008");
        // the 51 of the CALL is at another place: the CALL is none
        x = units(text);
        move(x, at + 12, 2);
        Check.linkAndLoad(x, 1, true);
        Check.due("saved", x.linked(4), 4);
        told(x, BASE, "auipc ra, 0x0");
        // alike by numbers: the 23 ahead of the 19 at one place is taken, the 19 not
        x = units(START + "la a0, d\ncall f\nf: nop\n.data\nd: .word 1");
        at = rela(x, 0, 0);
        Check.due("the 19", x.byteAt(0, at + 48 + 4), 19);
        move(x, at + 48, 0);
        Check.linkFault(x, 1, true, 7, 0, 4);
        // ahead of the end of the one taken before: not taken; at its end: taken
        x = units(START + "call f\ncall f\nf: nop");
        at = rela(x, 0, 0);
        for (int place : new int[] {1, 2, 4, 7}) {
            move(x, at + 24, place);
            move(x, at + 36, place);
            Check.linkFault(x, 1, true, 7, 0, 2);
        }
        move(x, at + 24, 8);
        move(x, at + 36, 8);
        Check.linkAndLoad(x, 1, true);
        Check.due("saved", x.linked(4), 12);
        // a 43 with addend 0 makes no piece: the word around it is whole
        x = units(START + "nop\n.word _start\n.align 2\nnop");
        at = rela(x, 0, 0);
        Check.due("the 43", x.byteAt(0, at + 12 + 4), 43);
        Check.put(x, 0, at + 12 + 8, 4, 0);
        for (int place = 0; place <= 10; place++) {
            move(x, at + 12, place);
            Check.linkAndLoad(x, 1, true);
            Check.due("the word", word(x, BASE + 2), BASE);
        }
        // a 51 alone makes none either
        x = units(START + "nop\n.word _start\nlui a0, %hi(_start)\nc.nop");
        at = rela(x, 0, 0);
        move(x, at + 24, 4);
        Check.linkAndLoad(x, 1, true);
        Check.due("the word", word(x, BASE + 2), BASE);
        Check.due("saved", x.linked(4), 0);
    }

    /** 7 of one that is taken: its words; the CALL's first and second, the NEAR's, the UPPER's. */
    private static void pieceFaults() {
        String[] texts = {"call _start", "la a0, _start", "lui a0, %hi(_start)"};
        int[] words = {8, 4, 4};
        int[] wrong = {0x13, 0x6f, 0x10001, 0, 0x8067, 0x4097, 0x40b7, 0xfffff003};
        for (int t = 0; t < 3; t++) {
            for (int w : wrong) {
                for (int at = 0; at < words[t]; at += 4) {
                    boolean right = at == 4 ? w == 0x8067 : t == 2 ? w == 0x40b7 : w == 0x4097;
                    ChainHouse x = units(START + "nop\n" + texts[t] + "\nc.nop");
                    int first = text(x, 0) + 2 + at;
                    // words behind the one that is altered stay as they are, so a START may be wrong: none is
                    Check.put(x, 0, first, 4, w);
                    if (x.check(0) != 0) {
                        continue;
                    }
                    if (right) {
                        Check.due("link", Check.link(x, 1, true) > 0, true);
                    } else {
                        Check.linkFault(x, 1, true, 7, 0, 0);
                        Check.linkFault(x, 1, false, 7, 0, 0);
                    }
                }
            }
        }
        // of a UNIT ahead of the next one's; 7 ahead of 8 of a FILL and of what is put in
        ChainHouse x = units(START + "nop\ncall _start\n.byte 1\n.align 2\n.byte 1,2,3", "call _start");
        Check.linkFault(x, 3, true, 8, 0, 2);
        Check.put(x, 1, text(x, 1), 4, 0x13);
        Check.linkFault(x, 3, true, 7, 1, 0);
        Check.put(x, 0, text(x, 0) + 2, 4, 0x13);
        Check.linkFault(x, 3, true, 7, 0, 0);
        Check.linkFault(x, 3, false, 7, 0, 0);
    }

    /** 6: 32 parts, 256 pieces, 64 LABELS may be, one more not; 7 ahead of the LABEL ahead of the piece. */
    private static void roomFaults() {
        String[] six = {START + "nop", "nop", "nop", "nop", "nop", "nop"};
        for (int n = 7; n <= 9; n++) {
            StringBuilder s = new StringBuilder(six[0]);
            for (int k = 0; k < n; k++) {
                s.append("\n.comm c").append(k).append(", 1, 1");
            }
            String[] texts = six.clone();
            texts[0] = s.toString();
            if (n <= 8) {
                ChainHouse x = linked(true, texts);
                Check.due("where", Check.where(x, "c" + (n - 1)), BASE + 32 + n - 1);
            } else {
                fault(6, -1, -1, texts);
            }
        }
        // 256 pieces: one UNIT's four sections have 3 but for .text
        String f = ".globl f\n" + START + "f: ";
        for (int more = 0; more < 2; more++) {
            // pieces: 124, a PLAIN one and 3 of the other sections; 125 or 126 and 3
            String calls = "call f\n";
            String[] texts = {f + calls.repeat(124) + "nop", calls.repeat(125 + more)};
            String[] last = {f + calls.repeat(124) + "nop", calls.repeat(125) + (more == 0 ? "" : ".align 2\n")};
            if (more == 0) {
                linked(true, texts);
                linked(false, last);
            } else {
                fault(6, -1, -1, texts);
                fault(6, -1, -1, last);
                // the last sections' are pieces, too
                fault(6, -1, -1, texts[0], calls.repeat(125) + "nop");
                fault(6, -1, -1, texts[0], calls.repeat(125), "");
            }
        }
        // an empty .text is a piece with 0 bytes
        linked(true, f + "call f\n".repeat(124) + "nop", "call f\n".repeat(121), "");
        fault(6, -1, -1, f + "call f\n".repeat(124) + "nop", "call f\n".repeat(122), "");
        // FILLS: 1 + 125 + 3 and 124 + 3
        String fills = ".align 2\n";
        linked(true, START + "nop\n" + fills.repeat(125), fills.repeat(124));
        fault(6, -1, -1, START + "nop\n" + fills.repeat(125), fills.repeat(125));
        // a common GLOBAL's is a piece, too
        fault(6, -1, -1, START + "nop\n" + fills.repeat(125), fills.repeat(124) + ".comm c, 1, 1");
        linked(true, START + "nop\n" + fills.repeat(125), fills.repeat(123) + ".comm c, 1, 1");
        // 64 LABELS
        linked(true, START + labels(64));
        fault(6, -1, -1, START + labels(65));
        fault(6, -1, -1, START + labels(64), "y: call y");
        // one for each symbol, not for each piece; a GLOBAL has one for all UNITS
        linked(true, START + labels(64) + "call q0\ncall q63");
        linked(true, START + labels(63) + "call _start", "call _start\nla a0, _start");
        fault(6, -1, -1, START + labels(63) + "call _start", "call _start\nla a0, y\ny:");
        // local ones of the same place are two
        fault(6, -1, -1, START + labels(63) + "call y\ncall z\ny: z:");
        linked(true, START + labels(62) + "call y\ncall z\ny: z:");
        // symbols that no piece aims at have none
        linked(true, START + labels(64) + "j y\n.word z\ny: z:");
        // 7 ahead of the LABEL: the 65th aims with a wrong word
        ChainHouse x = units(START + labels(64), "nop\ny: call y");
        Check.linkFault(x, 3, true, 6, -1, -1);
        Check.put(x, 1, text(x, 1) + 2, 4, 0x13);
        Check.linkFault(x, 3, true, 7, 1, 0);
        // in their order: too many LABELS in the first UNIT, a wrong word in the second
        x = units(START + labels(65), "nop\ny: call y");
        Check.put(x, 1, text(x, 1) + 2, 4, 0x13);
        Check.linkFault(x, 3, true, 6, -1, -1);
    }

    /** 6: OUTPUTS 0, 1 and 2 of 4096 bytes, 32,768 from the end of OUTPUT 2 to that of OUTPUT 3. */
    private static void outputRooms() {
        String[] sections = {".text", ".rodata", ".data"};
        for (String section : sections) {
            String first = START + "nop\n" + section + "\n.zero " + (section.equals(".text") ? 2046 : 2048);
            ChainHouse x = linked(true, first, section + "\n.zero 2048");
            Check.due("link", x.linked(0), 0);
            fault(6, -1, -1, first, section + "\n.zero 2048", section + "\n.zero 2");
            fault(6, -1, -1, first, section + "\n.zero 2048", "nop\n" + section + "\n.byte 1\n.byte 1");
            fault(6, -1, -1, first, section + "\n.zero 2045\n", section + (section.equals(".text") ? "\n.zero 4" : "\n.align 6\n.byte 1"));
        }
        StringBuilder seven = new StringBuilder();
        for (int k = 0; k < 7; k++) {
            seven.append(".comm c").append(k).append(", 4096, 1\n");
        }
        for (int data = 0; data <= 16; data += 4) {
            String start = START + "nop\n.data\n.zero " + data + "\n" + seven;
            ChainHouse x = linked(true, start + ".bss\n.zero 4096");
            Check.due("the last byte", x.rights(BASE + 16 + data + 32767), 3);
            Check.due("behind it", x.rights(BASE + 16 + data + 32768), 0);
            fault(6, -1, -1, start + ".bss\n.zero 4096", ".bss\n.zero 1");
            fault(6, -1, -1, start + ".comm d, 4096, 1\n.bss\n.zero 1");
        }
        // OUTPUT 3 begins at OUTPUT 2's end; the alignment of its first part counts
        linked(true, START + "nop\n.data\n.byte 1\n.bss\n.zero 4096\n" + seven);
        fault(6, -1, -1, START + "nop\n.data\n.byte 1\n.bss\n.align 1\n.zero 4096\n" + seven);
    }

    /** 16, 17, 44 and 45: i at both ends. */
    private static void targets() {
        Object[][] rows = {{"beq a0, a1, ", -4096, 4094}, {"bgeu a0, a1, ", -4096, 4094}, {"bnez t0, ", -4096, 4094}, {"jal t0, ", -1048576, 1048574}, {"j ", -1048576, 1048574}, {"c.j ", -2048, 2046}, {"c.jal ", -2048, 2046},
            {"c.beqz a0, ", -256, 254}, {"c.bnez a0, ", -256, 254}};
        for (Object[] row : rows) {
            int low = (Integer) row[1];
            int high = (Integer) row[2];
            for (int v : new int[] {low, low + 2, -2, 0, 2, high - 2, high}) {
                for (int shrinks = 0; shrinks < 2; shrinks++) {
                    ChainHouse x = linked(shrinks == 1, START + row[0] + "_start + " + v + "\nc.nop");
                    String all = Check.told(x, BASE);
                    Check.due("the target in " + all, all.substring(all.lastIndexOf(' ') + 1), "0x" + Integer.toHexString(BASE + v));
                }
            }
            for (int v : new int[] {low - 2, low - 1, low + 1, -1, 1, high - 1, high + 1, high + 2, low * 2, high * 2, 0x7fff0000, -0x7fff0000}) {
                fault(8, 0, 0, START + row[0] + "_start + " + v + "\nc.nop");
            }
        }
        // V - P is a long
        fault(8, 0, 0, START + "j k\n.globl k\n.equ k, -2147483648");
        fault(8, 0, 0, START + "beq a0, a1, k + 0x7fffffff\n.globl k\n.equ k, 0x7fffffff");
    }

    /** 19 with 8 bytes: D within an int. */
    private static void callWords() {
        // V is k and an addend; P is BASE
        long[][] rows = {{0x7fffffff, 65536, 1}, {0x7fffffff, 65537, 0}, {0x7fffffff, 65535, 1}, {0x80000000, 65536, 1}, {0x80000000, 65535, 0}, {0x80000000, 65537, 1}, {0x7fffffff, 0x7fffffff, 0}, {0x80000000, 0x80000000, 0}};
        for (long[] row : rows) {
            for (String one : new String[] {"call k", "la a0, k", "lw a0, k"}) {
                String text = START + one + " + " + (int) row[1] + "\n.globl k\n.equ k, " + (int) row[0];
                if (row[2] == 0) {
                    fault(8, 0, 0, text);
                    fault(8, 0, 0, ".option norelax\n" + text);
                } else {
                    ChainHouse x = linked(true, text);
                    int d = (int) ((int) row[0] + (long) (int) row[1] - BASE);
                    told(x, BASE, "auipc " + (one.startsWith("call") ? "ra" : "a0") + ", 0x" + Integer.toHexString(d + 2048 >>> 12));
                    String second = Check.told(x, BASE + 4);
                    Check.due("the lowest 12 bits in " + second, second.contains(" " + (d << 20 >> 20)), true);
                }
            }
        }
    }

    /** 26: V within an int. */
    private static void upperWords() {
        long[][] rows = {{0x7fffffff, 0, 1}, {0x7fffffff, 1, 0}, {0x80000000, 0, 1}, {0x80000000, -1, 0}, {0x7ffff7ff, 0, 1}, {0x7ffff800, 0, 1}, {-1, 0, 1}, {2047, 0, 1}, {2048, 0, 1}};
        for (long[] row : rows) {
            String text = START + "lui a0, %hi(k + " + (int) row[1] + ")\n.globl k\n.equ k, " + (int) row[0];
            if (row[2] == 0) {
                fault(8, 0, 0, text);
            } else {
                told(linked(true, text), BASE, "lui a0, 0x" + Integer.toHexString((int) row[0] + 2048 >>> 12));
            }
        }
        // 27 and 28 have no such end
        ChainHouse x = linked(true, START + "lw a0, %lo(k + 1)(a1)\nsw a0, %lo(k + 2)(a1)\n.globl k\n.equ k, 0x7fffffff");
        told(x, BASE, "lw a0, 0(a1)", "sw a0, 1(a1)");
    }

    /** 27 and 28: with SHRINKING and a 51 V itself, or V less GP, at both ends of -2048 to 2047. */
    private static void lowWords() {
        for (int v : new int[] {-2050, -2049, -2048, -2047, -1, 0, 2046, 2047, 2048, 2049, 4095, 4096, -4096}) {
            boolean near = v >= -2048 && v <= 2047;
            int low = v << 20 >> 20;
            String text = START + "lw a0, %lo(k)(a1)\nsw a0, %lo(k)(a1)\naddi a0, a1, %lo(k)\n.globl k\n.equ k, " + v;
            told(linked(true, text), BASE, near ? "lw a0, " + v + "(zero)" : "lw a0, " + low + "(a1)", near ? "sw a0, " + v + "(zero)" : "sw a0, " + low + "(a1)", near ? "addi a0, zero, " + v : "addi a0, a1, " + low);
            told(linked(false, text), BASE, "lw a0, " + low + "(a1)", "sw a0, " + low + "(a1)", "addi a0, a1, " + low);
            told(linked(true, ".option norelax\n" + text), BASE, "lw a0, " + low + "(a1)", "sw a0, " + low + "(a1)", "addi a0, a1, " + low);
            // from GP: DATA is at BASE + 16
            text = START + "lw a0, %lo(d + " + (2048 + v) + ")(a1)\nsw a0, %lo(d + " + (2048 + v) + ")(a1)\n.data\nd: .word 1";
            low = BASE + 16 + 2048 + v << 20 >> 20;
            told(linked(true, text), BASE, near ? "lw a0, " + v + "(gp)" : "lw a0, " + low + "(a1)", near ? "sw a0, " + v + "(gp)" : "sw a0, " + low + "(a1)");
            told(linked(false, text), BASE, "lw a0, " + low + "(a1)", "sw a0, " + low + "(a1)");
        }
        // V is a long: 2^32 is not 0
        told(linked(true, START + "lw a0, %lo(k + 0x7fffffff + 2)(a1)\n.globl k\n.equ k, 0x7fffffff"), BASE, "lw a0, 0(zero)");
        ChainHouse x = units(START + "lw a0, %lo(k)(a1)\n.globl k\n.equ k, 0x7fffffff");
        Check.put(x, 0, rela(x, 0, 0) + 8, 4, 0x7fffffff);
        Check.linkAndLoad(x, 1, true);
        told(x, BASE, "lw a0, -2(a1)");
    }

    /** 24 and 25: the lowest 12 bits of V' - P'; V' itself, or less GP, when the 23 has 0 bytes. */
    private static void nearLowWords() {
        for (int v : new int[] {-2049, -2048, 2047, 2048}) {
            boolean near = v >= -2048 && v <= 2047;
            String text = START + "c.nop\n1: auipc a0, %pcrel_hi(_start - 65536 + " + v + ")\naddi a1, a0, %pcrel_lo(1b)\nsw a1, %pcrel_lo(1b)(a0)\njalr a1, %pcrel_lo(1b)(a0)";
            int low = v - BASE - 2 << 20 >> 20;
            told(linked(true, text), BASE + 2 + (near ? 0 : 4), near ? "addi a1, zero, " + v : "addi a1, a0, " + low, near ? "sw a1, " + v + "(zero)" : "sw a1, " + low + "(a0)", near ? "jalr a1, " + v + "(zero)" : "jalr a1, " + low + "(a0)");
            told(linked(false, text), BASE + 6, "addi a1, a0, " + low, "sw a1, " + low + "(a0)");
        }
        // in each UNIT its own
        String[] three = new String[3];
        for (int u = 0; u < 3; u++) {
            three[u] = (u == 0 ? START : "") + ".option norelax\n.globl f" + u + "\nf" + u + ": la a" + u + ", d + " + 4 * u + "\nla t1, f" + u + "\nsw a" + u + ", d, t2\n" + (u == 0 ? ".data\n.globl d\nd: .word 1, 2, 3" : "");
        }
        ChainHouse y = linked(true, three);
        y.run(3);
        for (int u = 0; u < 3; u++) {
            int f = Check.where(y, "f" + u);
            y.set(32, f);
            y.set(33, 0);
            y.run(3);
            Check.due("la of d", y.get(10 + u), Check.where(y, "d") + 4 * u);
            Check.due("la of f", y.get(6), f);
            Check.due("stored", word(y, Check.where(y, "d")), Check.where(y, "d") + 4 * u);
        }
        // the first 23 at that place
        ChainHouse x = units(".option norelax\n" + START + "1: auipc a0, %pcrel_hi(d)\naddi a0, a0, %pcrel_lo(1b)\nauipc a1, %pcrel_hi(d + 4096 + 8)\n.data\nd: .word 1");
        int at = rela(x, 0, 0);
        move(x, at + 24, 0);
        Check.linkAndLoad(x, 1, true);
        told(x, BASE, "auipc a0, 0x1", "addi a0, a0, 16", "auipc a1, 0x0");
        // an addend of its own
        for (int addend : new int[] {1, -1, 4, 0x80000000}) {
            x = units(START + "1: auipc a0, %pcrel_hi(d)\naddi a0, a0, %pcrel_lo(1b)\n.data\nd: .word 1");
            at = rela(x, 0, 0);
            Check.due("the 24", x.byteAt(0, at + 24 + 4), 24);
            Check.put(x, 0, at + 24 + 8, 4, addend);
            Check.linkFault(x, 1, true, 7, 0, 2);
        }
        fault(7, 0, 0, START + "1: nop\naddi a0, a0, %pcrel_lo(1b)");
        fault(7, 0, 0, START + "sw a0, %pcrel_lo(d)(a0)\n.data\nd: .word 1");
        fault(7, 0, 0, START + "addi a0, a0, %pcrel_lo(c)\n.comm c, 4, 4");
        fault(7, 0, 0, START + "addi a0, a0, %pcrel_lo(w)\n.weak w");
        fault(7, 0, 0, START + "addi a0, a0, %pcrel_lo(_etext)");
        fault(7, 0, 0, START + "addi a0, a0, %pcrel_lo(k)\n.equ k, 65536");
        fault(7, 0, 0, START + "addi a0, a0, %pcrel_lo(f)", ".globl f\nf: la a0, f");
        linked(true, START + "addi a0, a0, %pcrel_lo(f)\n.globl f\nf: la a0, f");
        // a weak one that another UNIT's is DEFINED as is not in its own .text
        fault(7, 0, 4, START + "nop\n.weak f\nf: la a0, f\naddi a0, a0, %pcrel_lo(f)", ".globl f\nf: la a0, f");
    }

    /** 7: the word there isn't of the kind; ahead of 8. */
    private static void wrongWords() {
        // relocation kinds by an instruction of theirs, and words: which are of the kind
        String[] texts = {"beq a0, a1, _start", "jal a0, _start", "c.beqz a0, _start", "c.j _start", "addi a0, a0, %lo(_start)", "sw a0, %lo(_start)(a0)", "1: auipc a0, %pcrel_hi(_start)", "lui a0, %hi(_start)"};
        int[] words = {0x63, 0x1063, 0x2063, 0x4063, 0x7063, 0x6f, 0x67, 0x1067, 0xc101, 0xe101, 0xa001, 0x2001, 0x03, 0x1003, 0x2003, 0x3003, 0x4003, 0x5003, 0x23, 0x1023, 0x2023, 0x3023, 0x13, 0x1013, 0x2013, 0x5013, 0x7013, 0x33, 0x17, 0x37, 0x0ff0000f, 0x73, 0x8082, 0x4108, 0xc108, 0};
        int[][] right = {{0x63, 0x1063, 0x4063, 0x7063}, {0x6f}, {0xc101, 0xe101}, {0xa001, 0x2001}, {0x67, 0x03, 0x1003, 0x2003, 0x4003, 0x5003, 0x13, 0x2013, 0x7013}, {0x23, 0x1023, 0x2023}, {0x17}, {0x37}};
        for (int t = 0; t < texts.length; t++) {
            for (int w : words) {
                boolean good = false;
                for (int r : right[t]) {
                    good = good || r == w;
                }
                ChainHouse x = units(".option norelax\n" + START + "ecall\n" + texts[t] + "\n.zero 4");
                // the word is no START, so that any will do
                int at = starts(x, 0) + 2;
                Check.due("the second START", Check.number(x, 0, at, 2), 4);
                boolean shorts = (w & 3) != 3;
                Check.put(x, 0, text(x, 0) + 4, 4, w);
                Check.put(x, 0, 36, 4, shorts ? 1 : 0);
                Check.due("check", x.check(0), 0);
                if (good) {
                    Check.due("link with " + Integer.toHexString(w), Check.link(x, 1, true) > 0, true);
                } else {
                    Check.linkFault(x, 1, true, 7, 0, 0);
                }
            }
        }
        // 19 that is not taken: the first word, then 8, then the second word
        String far = ".option norelax\n" + START + "call k\n.globl k\n.equ k, -2147483648";
        fault(8, 0, 0, far);
        ChainHouse x = units(far);
        Check.put(x, 0, text(x, 0) + 4, 4, 0x13);
        Check.linkFault(x, 1, true, 8, 0, 0);
        Check.put(x, 0, text(x, 0), 4, 0x13);
        Check.linkFault(x, 1, true, 7, 0, 0);
        x = units(".option norelax\n" + START + "call _start");
        Check.put(x, 0, text(x, 0) + 4, 4, 0x13);
        Check.linkFault(x, 1, true, 7, 0, 0);
        // 24 and 25, whose symbol is as it should be
        int[] loads = {0x67, 0x03, 0x5003, 0x13, 0x7013};
        int[] stores = {0x23, 0x1023, 0x2023};
        for (int w : words) {
            for (int kind = 24; kind <= 25; kind++) {
                boolean good = false;
                for (int r : kind == 24 ? loads : stores) {
                    good = good || r == w;
                }
                for (int r : kind == 24 ? right[4] : right[5]) {
                    good = good || r == w;
                }
                x = units(START + "c.nop\n1: auipc a0, %pcrel_hi(_start)\n" + (kind == 24 ? "addi a0, a0, %pcrel_lo(1b)" : "sw a0, %pcrel_lo(1b)(a0)") + "\n.zero 4");
                Check.put(x, 0, text(x, 0) + 6, 4, w);
                Check.due("check", x.check(0), 0);
                if (good) {
                    Check.due("link with " + Integer.toHexString(w), Check.link(x, 1, true) > 0, true);
                } else {
                    Check.linkFault(x, 1, true, 7, 0, 2);
                }
            }
        }
        // 7 ahead of 8
        x = units(START + "nop\nj _start + 1");
        Check.linkFault(x, 1, true, 8, 0, 0);
        Check.put(x, 0, text(x, 0) + 2, 4, 0x13);
        Check.linkFault(x, 1, true, 7, 0, 0);
        x = units(".option norelax\n" + START + "ecall\nlui a0, %hi(k + 1)\n.globl k\n.equ k, 0x7fffffff");
        Check.put(x, 0, text(x, 0) + 4, 4, 0x13);
        Check.linkFault(x, 1, true, 7, 0, 0);
        // of 24: what its symbol wants ahead of the word
        x = units(START + "nop\naddi a0, a0, %pcrel_lo(_start)");
        Check.linkFault(x, 1, true, 7, 0, 0);
        // where a word was made smaller its kind isn't asked again
        linked(true, START + "call _start\nla a0, _start\nlui a0, %hi(_start)");
    }

    /** UNIT and NUMBER of each sort of fault of a relocation: the second UNIT's third one. */
    private static void unitsAndNumbers() {
        String head = "fence\nj _start\nj _start\n.option norelax\n";
        String k = "\n.globl k\n.equ k, -2147483648";
        String[] bad = {"beq a0, a1, _start + 1", "jal _start + 1", "c.j _start + 1", "c.beqz a0, _start + 1", "call k", "la a0, k", "lui a0, %hi(k - 1)"};
        for (String one : bad) {
            ChainHouse x = units(START + "nop", head + one + k);
            Check.linkFault(x, 3, true, 8, 1, 2);
            Check.linkFault(x, 3, false, 8, 1, 2);
            Check.put(x, 1, text(x, 1) + 12, 4, 0x73);
            // the last START may not be SHORT any more
            Check.put(x, 1, 36, 4, 0);
            Check.linkFault(x, 3, true, 7, 1, 2);
        }
        String[] wrong = {"call _start", "lw a0, %lo(_start)(a0)", "sw a0, %lo(_start)(a0)", "addi a0, a0, %pcrel_lo(_start)", "lui a0, %hi(_start)", "auipc a0, %pcrel_hi(_start)"};
        for (String one : wrong) {
            ChainHouse x = units(START + "nop", head + one);
            Check.put(x, 1, text(x, 1) + 12, 4, 0x73);
            Check.linkFault(x, 3, true, 7, 1, 2);
        }
        ChainHouse x = units(START + "nop", head + "call _start");
        Check.put(x, 1, text(x, 1) + 16, 4, 0x73);
        Check.linkFault(x, 3, true, 7, 1, 2);
        // those that become pieces
        for (String one : new String[] {"call _start", "la a0, _start", "lui a0, %hi(_start)"}) {
            x = units(START + "nop", head + ".option relax\n" + one);
            Check.put(x, 1, text(x, 1) + 12, 4, 0x73);
            Check.linkFault(x, 3, true, 7, 1, 2);
            Check.linkFault(x, 3, false, 7, 1, 2);
        }
        x = units(START + "nop", head + ".byte 1\n.align 2\n.byte 1, 2, 3");
        Check.linkFault(x, 3, true, 8, 1, 2);
        // a place within another's piece, 24 with a wrong word
        x = units(START + "nop", "fence\n.option relax\ncall _start\n.word _start");
        Check.put(x, 1, rela(x, 1, 0) + 24, 4, 6);
        Check.linkFault(x, 3, true, 7, 1, 2);
        x = units(START + "nop", "fence\n1: auipc a0, %pcrel_hi(_start)\naddi a0, a0, %pcrel_lo(1b)");
        Check.put(x, 1, text(x, 1) + 8, 4, 0x73);
        Check.linkFault(x, 3, true, 7, 1, 2);
    }

    /** 7: a relocation whose bytes are not all in one piece that is PLAIN. */
    private static void places() {
        String text = START + "call _start\n.word _start\nla a0, _start\n.word _start\n.align 3\n.word _start\n";
        // pieces: CALL 0 .. 8, PLAIN 8 .. 12, NEAR 12 .. 16, PLAIN 16 .. 24, FILL 24 .. 30, PLAIN 30 .. 34
        int[][] plain = {{8, 12}, {16, 24}, {30, 34}};
        ChainHouse x = units(text);
        x.check(0);
        int at = rela(x, 0, 0);
        Check.due("the first 1", x.byteAt(0, at + 24 + 4), 1);
        Check.due(".text", x.object(0, 0, 0), 34);
        for (int kind : new int[] {1, 33, 34, 35, 37, 38, 39}) {
            int width = kind == 33 || kind == 37 ? 1 : kind == 34 || kind == 38 ? 2 : 4;
            for (int place = 0; place + width <= 34; place++) {
                x = units(text);
                move(x, at + 24, place);
                x.spoil(0, at + 24 + 4, kind);
                boolean inside = false;
                for (int[] p : plain) {
                    inside = inside || place >= p[0] && place + width <= p[1];
                }
                boolean good = Check.link(x, 1, true) > 0;
                // it may alter the addi of the la: then the 24 has no such word
                boolean other = !good && x.linked(0) == 7 && x.linked(2) != 2 && place >= 16 - width && place < 20;
                Check.due("kind " + kind + " at " + place + " (" + x.linked(0) + ", " + x.linked(2) + ")", good || other, inside);
                if (!inside) {
                    Check.due("fault", x.linked(0), 7);
                    Check.due("number", x.linked(2), 2);
                }
            }
        }
        // without a piece of its own a 23 is asked for its place
        x = units(START + "call _start\nla a0, _start");
        at = rela(x, 0, 0);
        for (int place : new int[] {0, 2, 4, 6}) {
            move(x, at + 24, place);
            Check.linkFault(x, 1, true, 7, 0, 2);
        }
        // symbols within a piece: at its end; at its beginning: there
        x = units(START + "call _start\nq: nop\n.data\n.word q\n.globl q\n");
        x.check(0);
        int symbols = part(x, 0, 2, 36, 16);
        for (int value = 0; value <= 10; value++) {
            x = units(START + "call _start\nq: nop\n.data\n.word q\n.globl q\n");
            Check.put(x, 0, symbols + 32 + 4, 4, value);
            Check.linkAndLoad(x, 1, true);
            int want = BASE + (value == 0 ? 0 : value <= 8 ? 2 : value - 6);
            Check.due("where q of " + value, Check.where(x, "q"), want);
            Check.due("the word", word(x, BASE + 16), want);
        }
    }

    /** 1 is put there, whatever is there; 33 to 35 are added, 37 to 39 taken off; all wrap. */
    private static void dataNumbers() {
        int[] kinds = {1, 33, 34, 35, 37, 38, 39};
        for (int kind : kinds) {
            for (int k : new int[] {0, 1, -1, 255, 256, 65535, 65536, 0x7fffffff, 0x80000000}) {
                ChainHouse x = units(START + "nop\n.data\n.word k, 0x11223344\n.globl k\n.equ k, " + k);
                int at = rela(x, 0, 2);
                x.spoil(0, at + 4, kind);
                Check.put(x, 0, at, 4, 4);
                Check.put(x, 0, at + 8, 4, 3);
                Check.linkAndLoad(x, 1, true);
                long v = k + 3L;
                int was = 0x11223344;
                int sum = (int) (kind < 37 ? was + v : was - v);
                int mask = kind == 33 || kind == 37 ? 255 : kind == 34 || kind == 38 ? 65535 : -1;
                int want = kind == 1 ? (int) v : was & ~mask | sum & mask;
                Check.due("kind " + kind + " of " + k, word(x, BASE + 20), want);
                Check.due("the word ahead", word(x, BASE + 16), 0);
            }
        }
    }

    /** A mark for each START, where its place is: not beyond the bytes, not at an odd one. */
    private static void marks() {
        // within the last CALL: its end, which is TEXT's
        ChainHouse x = units(START + "nop\nnop\ncall _start");
        int at = starts(x, 0);
        for (int start : new int[] {6, 8, 10}) {
            Check.put(x, 0, at + 4, 2, start);
            Check.linkAndLoad(x, 1, true);
            Check.due("rights", x.rights(BASE + 2), 13);
            Check.due("no mark", x.rights(BASE + 4), 5);
            Check.due("TEXT's end", x.rights(BASE + 6), 0);
        }
        // within a CALL that is not the last: its end
        x = units(START + "nop\nnop\ncall _start\nnop\nnop");
        at = starts(x, 0);
        Check.put(x, 0, at + 4, 2, 6);
        Check.linkAndLoad(x, 1, true);
        int[] rights = {13, 13, 5, 13, 13};
        for (int k = 0; k < 5; k++) {
            Check.due("rights", x.rights(BASE + 2 * k), rights[k]);
        }
        // an odd place: behind a FILL of one byte
        x = linked(true, START + "nop\n.byte 3\n.align 2\n.byte 9\nnop\n.byte 0");
        Check.due("TEXT's bytes", Check.number(x, -1, 52 + 16, 4), 8);
        for (int k = 0; k < 8; k++) {
            Check.due("rights", x.rights(BASE + k), k == 0 ? 13 : 5);
        }
        Check.due("the byte 9", x.peek(BASE + 4), 9);
        Check.due("the nop", x.peek(BASE + 5), 1);
        // two STARTS at one place are one mark
        x = linked(true, START + "nop\n.globl g\ng: 1: auipc a0, %pcrel_hi(d)\naddi a0, a0, %pcrel_lo(1b)\nnop\n.data\nd: .word 1");
        int[] both = {13, 13, 5, 13};
        for (int k = 0; k < 4; k++) {
            Check.due("rights", x.rights(BASE + 2 * k), both[k]);
        }
        // 9: a MARK within a long word, an ENTRY without a MARK, no bytes, an odd number of them
        fault(9, -1, -5, START + ".half 1\nnop");
        fault(9, -1, -5, "nop\n.globl _start\n_start:");
        fault(9, -1, -1, START);
        fault(9, -1, -1, START + "nop\n.byte 1");
        fault(9, -1, -1, START + "nop", ".byte 1");
        // an empty part has its alignment, too
        linked(true, START + "nop\n.byte 1", ".rodata\n.byte 1");
        linked(true, START + "nop\n.byte 1", "nop");
        x = units(START + "nop\nnop\nnop");
        x.spoil(0, text(x, 0) + 2, 3);
        Check.linkFault(x, 1, true, 9, -1, -4);
        x = units(START + "nop\nnop");
        x.spoil(0, text(x, 0) + 2, 3);
        Check.linkFault(x, 1, true, 9, -1, -4);
        // 4 ahead of 5
        x = units("nop\nnop\n.globl _start\n.half 1\n_start: .half 1");
        x.spoil(0, text(x, 0), 3);
        Check.linkFault(x, 1, true, 9, -1, -4);
    }

    /** Bytes between parts are 0, behind pieces that became smaller, too. */
    private static void padding() {
        ChainHouse x = linked(true, START + "nop\ncall _start", "nop\n.byte 1\n.byte 2\ncall _start", "nop");
        told(x, BASE, "c.nop", "c.jal 0x10000", "c.nop");
        Check.due("bytes", word(x, BASE + 4), 0x02010001);
        Check.due("padding", x.peek(BASE + 10), 0);
        Check.due("padding", x.peek(BASE + 11), 0);
        Check.due("the third UNIT", x.peek(BASE + 12), 1);
        x = linked(true, START + "nop\nnop\ncall _start", ".align 3\nnop");
        Check.due("the second UNIT", x.peek(BASE + 8), 1);
        Check.due("padding", x.peek(BASE + 6), 0);
        Check.due("padding", x.peek(BASE + 7), 0);
        x = linked(true, START + "nop\n.rodata\n.byte 255\n.data\n.byte 255", ".rodata\n.align 2\n.byte 254\n.data\n.align 3\n.byte 254");
        Check.due("CONST", word(x, BASE + 16), 255);
        Check.due("CONST", x.peek(BASE + 20), 254);
        Check.due("DATA", word(x, BASE + 32), 255);
        Check.due("DATA", word(x, BASE + 36), 0);
        Check.due("DATA", x.peek(BASE + 40), 254);
        Check.due("behind it", x.rights(BASE + 41), 0);
    }

    /** By UNITS, in the order in which relocations are READ: .text, .rodata, .data. */
    private static void orderOfRelocations() {
        fault(8, 0, 0, START + "j _start + 1\nbeq a0, a1, _start + 1");
        fault(8, 0, 1, START + "j _start\nbeq a0, a1, _start + 1", "j _start + 1");
        fault(8, 1, 0, START + "j _start\nbeq a0, a1, _start", "j _start + 1");
        // a later relocation finds what the one ahead has put
        ChainHouse x = units(".option norelax\n" + START + "ecall\n.word k\nj _start\n.globl k\n.equ k, 0x13");
        int at = rela(x, 0, 0);
        move(x, at + 12, 4);
        Check.linkFault(x, 1, true, 7, 0, 1);
        swap(x, at, at + 12);
        Check.linkFault(x, 1, true, 7, 0, 0);
        x = units(".option norelax\n" + START + "ecall\n.word k\nj _start\n.globl k\n.equ k, 0x6f");
        move(x, rela(x, 0, 0) + 12, 4);
        Check.linkAndLoad(x, 1, true);
        told(x, BASE + 4, "jal zero, 0x10000");
    }

    /** Several links with one object: nothing of the one ahead is left. */
    private static void again() {
        ChainHouse x = new ChainHouse();
        Check.assemble(x, 0, START + labels(64) + "nop");
        Check.assemble(x, 1, "nop\n" + labels(64));
        for (int k = 0; k < 3; k++) {
            Check.due("64 LABELS again", Check.link(x, 1, true) > 0, true);
            Check.due("linked(1)", x.linked(1), -1);
            Check.due("linked(2)", x.linked(2), -1);
            Check.linkFault(x, 3, true, 6, -1, -1);
            Check.linkFault(x, 2, true, 5, -1, -1);
            Check.linkFault(x, 4, true, 1, 2, -1);
        }
        // a NUMBER, then none
        Check.assemble(x, 2, "nop\nj _start + 1");
        Check.linkFault(x, 5, true, 8, 2, 0);
        Check.due("link", Check.link(x, 1, true) > 0, true);
        Check.due("linked(0)", x.linked(0), 0);
        Check.due("linked(1)", x.linked(1), -1);
        Check.due("linked(2)", x.linked(2), -1);
        // with a 51, then without
        Check.assemble(x, 0, START + "call f\nla a0, d\nf: nop\n.data\nd: .word 1");
        Check.link(x, 1, true);
        Check.due("saved", x.linked(4), 10);
        Check.assemble(x, 0, ".option norelax\n" + START + "call f\nla a0, d\nf: nop\n.data\nd: .word 1");
        Check.link(x, 1, true);
        Check.due("saved", x.linked(4), 0);
        Check.due("FIXED", x.linked(3), 0);
        // commons and sizes
        Check.assemble(x, 0, START + "nop\n.comm c, 100, 64\n.comm e, 5, 1");
        Check.link(x, 1, true);
        Check.due("where c", Check.where(x, "c"), BASE + 64);
        Check.due("where e", Check.where(x, "e"), BASE + 164);
        Check.assemble(x, 0, START + "nop\n.comm c, 1, 1\n.weak e\n.word e");
        Check.link(x, 1, true);
        Check.due("where c", Check.where(x, "c"), BASE + 16);
        Check.due("where e", Check.where(x, "e"), 0);
        Check.linkAndLoad(x, 1, true);
        Check.due("rights", x.rights(BASE + 16), 3);
        Check.due("rights", x.rights(BASE + 17), 0);
        // another START
        Check.assemble(x, 0, ".half 1\n" + START + "nop");
        Check.linkAndLoad(x, 1, true);
        Check.due("no mark", x.rights(BASE), 5);
        Check.due("a mark", x.rights(BASE + 2), 13);
        Check.due("no DATA", x.rights(BASE + 16), 0);
        Check.due("two rows", Check.number(x, -1, 44, 2), 2);
    }

    /** With a LINK FAULT, of any number, the IMAGE, the GLOBALS, what is FIXED and saved stay; with an exception of set all that is told stays. */
    private static void stays() {
        ChainHouse x = new ChainHouse();
        Check.due("where", Check.where(x, "_start"), Check.ELEMENT);
        Check.assemble(x, 0, START + "la a2, d - 0x10000 - 2069\nla a1, d - 0x10000 - 2068\nla a0, d - 0x10000\n.data\n.word 0\n.globl d\nd: .word 1");
        int n = Check.link(x, 1, true);
        Check.due("FIXED", x.linked(3), 1);
        List<String> bad = new ArrayList<>();
        bad.add("2");
        bad.add(".globl _start\n_start: nop\n.globl d\nd:");
        bad.add("j none\n.globl d\n.equ d, 1");
        bad.add("nop\n.globl d\nd: nop");
        bad.add(START + labels(65) + ".globl d\nd:");
        bad.add(START + "j _start + 1\n.globl d\nd:");
        bad.add(START + ".byte 1\n.globl d\nd:");
        bad.add(START + "nop\n1: addi a0, a0, %pcrel_lo(1b)\n.globl d\nd:");
        int[] faults = {2, 0, 4, 5, 6, 8, 9, 7};
        for (int k = 0; k < bad.size(); k++) {
            if (k == 0) {
                Check.assemble(x, 1, "nop");
                x.spoil(1, 4, 9);
            } else {
                Check.assemble(x, 1, bad.get(k));
            }
            if (faults[k] == 0) {
                Check.linkFault(x, 3, true, 3, 1, 0);
            } else {
                Check.due("link", Check.link(x, 2, true), Check.STATE);
                Check.due("linked(0)", x.linked(0), faults[k]);
            }
            Check.due("the IMAGE stays", x.size(-1), n);
            Check.due("FIXED stays", x.linked(3), 1);
            Check.due("saved stays", x.linked(4), 8);
            Check.due("where _start stays", Check.where(x, "_start"), BASE);
            Check.due("where d stays", Check.where(x, "d"), BASE + 20);
            int was = x.linked(0);
            int unit = x.linked(1);
            int number = x.linked(2);
            Check.due("link of none", Check.link(x, k % 2 == 0 ? 0 : 64, true), Check.ARGUMENT);
            Check.due("linked(0) stays", x.linked(0), was);
            Check.due("linked(1) stays", x.linked(1), unit);
            Check.due("linked(2) stays", x.linked(2), number);
        }
        Check.due("load", x.load(), 0);
        // the characters of a name, the highest first, zeros left out
        Check.due("where", x.where(0x5f73746172740000L, 0), BASE);
        Check.due("where", x.where(0, 0x5f73746172740000L), BASE);
        Check.due("where", x.where(0x5fL, 0x7374617274L), BASE);
        Check.due("where", x.where(0x5f00730074006100L, 0x7200000074L), BASE);
        Check.due("where", x.where(0x64L << 56, 0), BASE + 20);
        Check.due("where", x.where(0, 0x64), BASE + 20);
        for (long[] name : new long[][] {{0, 0}, {0x6464L, 0}, {0x64L, 0x64L}, {-1L, -1L}, {0xe4L, 0}, {0x5f73746172747400L, 0}}) {
            int got = 0;
            try {
                x.where(name[0], name[1]);
            } catch (java.util.NoSuchElementException e) {
                got = 1;
            }
            Check.due("where of none", got, 1);
        }
    }
}
