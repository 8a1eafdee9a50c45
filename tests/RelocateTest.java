import java.util.ArrayList;
import java.util.List;
import java.util.Random;

/** Section 8: units with altered relocations, symbols, words and STARTS, linked by a plain model, must give the same IMAGE or LINK FAULT. */
public final class RelocateTest {
    private static final String[] NAMES = {".text", ".rodata", ".data", ".bss"};

    private static final String[] TEXTS = {
        ".globl _start\n_start: call f\nla a0, d\nlui a1, %hi(d)\nlw a2, %lo(d)(a1)\nsw a2, %lo(d)(a1)\n.align 3\nf: beq a0, a1, _start\nj f\nc.j f\nc.beqz a0, f\n.word f\n.data\n.globl d\nd: .word f - d, 5\n.byte f - d\n.half d - f\n"
            + ".rodata\nr: .word d, r\n.bss\n.zero 20\nb:\n.comm c, 8, 8\n.weak w\n.text\ncall k\nla a0, w\nla a0, c\nret\n.globl k\n.equ k, 77",
        "1: la a0, 1b\ncall g\n.globl g\ng: lw a0, d\nsw a0, c, t0\n.align 4\nnop\n.byte 1\n.align 2\n.byte 1,2,3\n.weak w\nw: call w\ntail _start\n.data\n.word d, c, w\n.comm c, 16, 32\n.bss\n.align 3\n.zero 8",
        ".option norvc\nq: call q\n.option norelax\ncall q\nla a0, q\n.option relax\nla a1, _end\nlui a2, %hi(_gp)\n.rodata\n.asciz \"abc\"\n.word q"};

    public static void main(String[] args) {
        int[] seen = new int[16];
        byte[][] files = new byte[TEXTS.length][];
        for (int k = 0; k < TEXTS.length; k++) {
            String text = TEXTS[k];
            files[k] = Check.file(() -> Check.good(text), 0);
        }
        for (int seed = 0; seed < 5000; seed++) {
            one(new Random(seed), seed, files, seen);
        }
        for (int fault : new int[] {0, 2, 3, 4, 5, 7, 8, 9}) {
            Check.due("LINK FAULT " + fault + " was seen (" + seen[fault] + ")", seen[fault] > 10, true);
        }
        Check.end();
    }

    private static final int[] KINDS = {1, 16, 17, 19, 23, 24, 25, 26, 27, 28, 33, 34, 35, 37, 38, 39, 43, 44, 45, 51};
    private static final int[] WORDS = {0x17, 0x97, 0x37, 0x5b7, 0x13, 0x513, 0x67, 0xe7, 0x300067, 0x63, 0xb50063, 0x6f, 0xef, 0x2003, 0x52503, 0x2023, 0xa52023, 0x10001, 0xa001a001, 0x20012001, 0xc101c101, 0xe101e101, 0x33, 0};

    private static String string(byte[] f, int at) {
        StringBuilder s = new StringBuilder();
        for (int k = at; f[k] != 0; k++) {
            s.append((char) (f[k] & 255));
        }
        return s.toString();
    }

    private static int at(byte[] f, String name, int what) {
        int table = Check.number(f, 32, 4);
        int strings = Check.number(f, table + 40 * Check.number(f, 50, 2) + 16, 4);
        for (int e = 1; e < Check.number(f, 48, 2); e++) {
            if (string(f, strings + Check.number(f, table + 40 * e, 4)).equals(name)) {
                return what < 0 ? table + 40 * e : Check.number(f, table + 40 * e + what, 4);
            }
        }
        return 0;
    }

    /** Changes a number of a unit's FILE, here and there. */
    private static void set(ChainHouse x, int u, byte[] f, int at, int width, int v, List<int[]> undo) {
        for (int k = 0; k < width; k++) {
            byte b = (byte) (v >> 8 * k);
            if (f[at + k] != b) {
                undo.add(new int[] {u, at + k, f[at + k]});
                f[at + k] = b;
                x.spoil(u, at + k, b);
            }
        }
    }

    private static void alter(ChainHouse x, int u, byte[] f, Random r, List<int[]> undo) {
        int section = r.nextInt(4) > 0 ? 0 : r.nextInt(3);
        int rela = at(f, ".rela" + NAMES[section], 16);
        int count = at(f, ".rela" + NAMES[section], 20) / 12;
        int symbols = at(f, ".symtab", 20) / 16;
        int text = at(f, ".text", 16);
        int size = at(f, ".text", 20);
        int row = count == 0 ? 0 : rela + 12 * r.nextInt(count);
        switch (r.nextInt(12)) {
            case 0: case 1:
                if (row > 0) {
                    set(x, u, f, row, 4, r.nextInt(4) == 0 ? r.nextInt(size) : Math.max(0, Check.number(f, row, 4) + r.nextInt(17) - 8), undo);
                }
                break;
            case 2: case 3:
                if (row > 0) {
                    int kind = KINDS[r.nextInt(KINDS.length)];
                    boolean none = kind == 43 || kind == 51;
                    set(x, u, f, row + 4, 1, kind, undo);
                    set(x, u, f, row + 5, 1, none ? 0 : Math.max(1, f[row + 5]), undo);
                    if (kind == 43) {
                        set(x, u, f, row + 8, 4, 2 * r.nextInt(8), undo);
                    }
                }
                break;
            case 4:
                if (row > 0 && f[row + 5] != 0) {
                    set(x, u, f, row + 5, 1, 1 + r.nextInt(symbols - 1), undo);
                }
                break;
            case 5: case 6:
                if (row > 0 && f[row + 4] != 43) {
                    int[] some = {0, 1, 2, -2, 4, 254, 256, -256, -258, 2046, 2048, -2048, -2050, 4094, 4096, -4096, 1048574, 1048576, -1048576, -65536, -65536 + 2047, -65536 - 2048, 0x7fffffff, 0x80000000, 4095, 63488, 0x7ffe0000};
                    set(x, u, f, row + 8, 4, some[r.nextInt(some.length)] + (r.nextInt(3) == 0 ? r.nextInt(33) - 16 : 0), undo);
                }
                break;
            case 7: {
                int symbol = at(f, ".symtab", 16) + 16 * (1 + r.nextInt(symbols - 1));
                int where = Check.number(f, symbol + 14, 2);
                if (where >= 1 && where <= 4) {
                    int to = 1 + r.nextInt(4);
                    set(x, u, f, symbol + 14, 2, to, undo);
                    set(x, u, f, symbol + 4, 4, r.nextInt(at(f, NAMES[to - 1], 20) + 1), undo);
                } else if (where == 65521) {
                    set(x, u, f, symbol + 4, 4, r.nextInt(), undo);
                }
                break;
            }
            case 8: {
                int symbol = at(f, ".symtab", 16) + 16 * (1 + r.nextInt(symbols - 1));
                if (f[symbol + 12] != 0) {
                    set(x, u, f, symbol + 12, 1, 16 * (1 + r.nextInt(2)), undo);
                }
                break;
            }
            case 9: {
                int place = 2 * r.nextInt(size / 2);
                int w = WORDS[r.nextInt(WORDS.length)];
                for (int k = 0; k < 4 && place + k < size; k++) {
                    set(x, u, f, text + place + k, 1, w >> 8 * k, undo);
                }
                break;
            }
            case 10: {
                int starts = at(f, ".starts", 16);
                int n = at(f, ".starts", 20) / 2;
                int k = r.nextInt(n);
                int least = k == 0 ? 0 : Check.number(f, starts + 2 * k - 2, 2) + 2;
                int most = k == n - 1 ? size - 2 : Check.number(f, starts + 2 * k + 2, 2) - 2;
                if (most >= least) {
                    set(x, u, f, starts + 2 * k, 2, least + 2 * r.nextInt((most - least) / 2 + 1), undo);
                }
                break;
            }
            default: {
                int entry = at(f, NAMES[3], -1);
                set(x, u, f, entry + 32, 4, 1 << r.nextInt(7), undo);
                set(x, u, f, entry + 20, 4, r.nextInt(200), undo);
                break;
            }
        }
        // the flags as they should be
        LinkerModel.Unit now = LinkerModel.parse(f);
        boolean any = false;
        for (int s : now.starts) {
            any = any || s < size && (f[text + s] & 3) != 3;
        }
        set(x, u, f, 36, 1, any ? 1 : 0, undo);
    }

    private static void one(Random r, int seed, byte[][] files, int[] seen) {
        ChainHouse x = new ChainHouse();
        int n = 1 + r.nextInt(3);
        byte[][] f = new byte[n][];
        for (int u = 0; u < n; u++) {
            int which = u == 0 ? 0 : u == 1 && r.nextInt(3) > 0 || r.nextInt(8) == 0 ? 1 : 2;
            f[u] = files[which].clone();
            Check.assemble(x, u, TEXTS[which]);
        }
        for (int turn = 0; turn < 7; turn++) {
            List<int[]> undo = new ArrayList<>();
            for (int k = r.nextInt(4); k >= 0; k--) {
                int u = r.nextInt(n);
                alter(x, u, f[u], r, undo);
            }
            String told = "seed " + seed + ", turn " + turn;
            compare(told, x, f, r.nextInt(4) > 0, seen);
            for (int k = undo.size() - 1; k >= 0; k--) {
                int[] was = undo.get(k);
                f[was[0]][was[1]] = (byte) was[2];
                x.spoil(was[0], was[1], was[2]);
            }
        }
    }

    private static void compare(String told, ChainHouse x, byte[][] f, boolean shrinks, int[] seen) {
        LinkerModel model = new LinkerModel(f, (1 << f.length) - 1, shrinks);
        int[] want = {model.fault, model.unit, model.number};
        seen[want[0]]++;
        int got = Check.link(x, (1 << f.length) - 1, shrinks);
        for (int k = 0; k < 3; k++) {
            Check.due(told + ": linked(" + k + ") of FAULT " + want[0], x.linked(k), want[k]);
        }
        if (want[0] == 0 && got > 0) {
            Check.due(told + ": size", got, model.file.length);
            Check.due(told + ": FIXED", x.linked(3), model.fixed);
            Check.due(told + ": saved", x.linked(4), model.saved);
            // the SUM, and some more bytes
            int note = Check.number(model.file, 52 + 32 * (model.file[44] - 1) + 4, 4);
            Check.due(told + ": the SUM", Check.number(x, -1, note + 24, 4), Check.number(model.file, note + 24, 4));
            for (int at = got % 41; at < got; at += 41) {
                Check.due(told + ": byte " + at, x.byteAt(-1, at), model.file[at] & 255);
            }
            for (String name : new String[] {"_start", "d", "c"}) {
                Check.due(told + ": where " + name, Check.where(x, name), model.where(name));
            }
        }
    }
}
