import java.util.Random;

/** All promises: for any arguments in any state a call answers, or throws what is promised and nothing else. */
public final class AnyCallsTest {
    private static final int[] INTS = {0, 1, -1, 2, 3, 4, 5, 6, 7, 8, 9, 16, 20, 31, 32, 33, 34, 52, 63, 64, 100, 2000, 2001, 4096, 8192, 65536, 65538, 65540,
        65552, 131070, 131071, 131072, 2147483647, -2147483648, 0x5f737461};
    private static final String[] LINES = {"nop", "f: call f", "1: la a0, d", "j 1b", "lw a0, d", "sw a0, d, t0", "lui a0, %hi(d)", "addi a0, a0, %lo(d)", ".align 3",
        ".align 6", "ret", "li a7, 1", "ecall", "ebreak", "tail g", ".globl g", "g: nop", ".data", ".text", ".text", ".rodata", ".bss", ".zero 6", ".word f, d, . - g", ".byte 1, g - f",
        ".option norvc", ".option rvc", ".option norelax", ".option relax", ".option push", ".option pop", ".weak f", ".comm c, 8, 8", ".equ k, 5 + 3", "bnez a0, f",
        "c.beqz a0, f", "c.j g", "mul a0, a1, a2", "div a0, a0, a1", ".asciz \"ab\\n\"", "foo", "add a0", "li a0, (", "'", "\"", "%", "2: j 2f", ".globl d", "# x", "jr a0", "lw a1, 0(gp)", "sw a1, 4(gp)"};

    private static final String[] RUNNING = {"nop", "call f", "la a0, d", "lw a0, d", "sw a0, d, t0", "lui a0, %hi(d)\naddi a0, a0, %lo(d)", ".align 3", "li a7, 1", "ecall",
        "call g", ".data\n.word d, f, _start - g\n.text", ".option push\n.option norvc\nmul a0, a0, a1\n.option pop", "bnez a0, f", "li a7, 3", "sub a1, a1, a0", "jal t0, f"};
    /** The first turns, so that there is something to link, to load and to run. */
    private static final int[] BEGIN = {2, 3, 19, 20, 21, 25, 31};

    public static void main(String[] args) {
        int[] counts = new int[4];
        for (int seed = 0; seed < 3000; seed++) {
            object(new Random(seed), counts);
        }
        Check.due("enough was assembled", counts[0] > 300, true);
        Check.due("enough was linked", counts[1] > 300, true);
        Check.due("enough was loaded", counts[2] > 300, true);
        Check.due("enough steps were taken back", counts[3] > 300, true);
        Check.end();
    }

    private static int any(Random r) {
        return r.nextInt(8) == 0 ? r.nextInt() : INTS[r.nextInt(INTS.length)];
    }

    /** A text that can be linked alone and runs. */
    private static String runs(Random r) {
        StringBuilder s = new StringBuilder(".globl _start\n_start: nop\n");
        for (int k = r.nextInt(9); k > 0; k--) {
            s.append(RUNNING[r.nextInt(RUNNING.length)]).append('\n');
        }
        return s + "f: addi a0, a0, 1\nli a7, 1\necall\nj _start\ng: ret\n.data\nd: .word 1, 2";
    }

    private static String text(Random r) {
        if (r.nextInt(3) == 0) {
            return runs(r);
        }
        StringBuilder s = new StringBuilder(r.nextInt(2) == 0 ? ".globl _start\n_start: nop\n" : "");
        for (int k = r.nextInt(12); k > 0; k--) {
            s.append(LINES[r.nextInt(r.nextInt(6) == 0 ? LINES.length : 40)]).append('\n');
        }
        s.append(r.nextInt(3) == 0 ? "" : ".globl f2\n.data\nd: .word 1\n.text\nf: nop\ng: nop\n");
        if (r.nextInt(9) == 0 && s.length() > 0) {
            s.setCharAt(r.nextInt(s.length()), (char) r.nextInt(256));
        }
        return s.toString();
    }

    /** How many calls of the object one turn makes at most. */
    private static int most(int which) {
        if (which >= 2 && which <= 5) {
            return 70;
        }
        return which == 31 ? 150 : which >= 19 && which <= 22 ? 6 : 2;
    }

    /** An object is used for 512 calls at most. */
    private static void object(Random r, int[] counts) {
        ChainHouse x = new ChainHouse();
        int left = 512;
        int turn = 0;
        int which = 2;
        while (left >= most(which)) {
            try {
                one(x, r, which, counts);
            } catch (RuntimeException e) {
                Check.due("call " + which + " threw " + e, false, true);
                e.printStackTrace();
                return;
            }
            left -= most(which);
            turn++;
            which = turn < BEGIN.length ? BEGIN[turn] : r.nextInt(40);
        }
    }

    private static void one(ChainHouse x, Random r, int which, int[] counts) {
        switch (which) {
            case 0: x.feed(r.nextInt(), any(r), any(r), any(r), any(r)); break;
            case 1: x.end(any(r)); break;
            case 2: case 3: case 4: case 5: assemble(x, r, counts); break;
            case 6: x.fault(any(r)); break;
            case 7: Check.take(x, any(r)); break;
            case 8: x.extend(r.nextInt(8) - 1, any(r), r.nextLong()); break;
            case 9: x.cut(any(r), any(r)); break;
            case 10: case 11: x.spoil(r.nextInt(7) - 1, r.nextInt(700), any(r)); break;
            case 12: x.spoil(any(r), any(r), any(r)); break;
            case 13: x.size(any(r)); break;
            case 14: x.byteAt(any(r), any(r)); break;
            case 15: case 16: Check.check(x, r.nextInt(8) - 1); break;
            case 17: x.object(r.nextInt(8) - 1, r.nextInt(12) - 1, r.nextInt(12) - 1); break;
            case 18: x.object(any(r), any(r), any(r)); break;
            case 19: case 20: case 21: case 22: link(x, r, counts); break;
            case 23: x.linked(any(r)); break;
            case 24: Check.where(x, r.nextBoolean() ? "_start" : "f"); break;
            case 25: case 26: counts[2] += x.load() == 0 ? 1 : 0; break;
            case 27: x.place(); break;
            case 28: x.step(); break;
            case 29: case 30: x.run(any(r)); break;
            case 31: backAndForth(x, r, counts); break;
            case 32: x.set(any(r), any(r)); break;
            case 33: x.get(any(r)); break;
            case 34: x.peek(any(r)); break;
            case 35: x.input(any(r), r.nextLong()); break;
            case 36: x.halt(any(r), r.nextBoolean()); break;
            case 37: x.state(any(r)); x.output(any(r)); break;
            case 38: x.rights(any(r)); break;
            default: x.tell(any(r)); x.letter(any(r)); break;
        }
    }

    /** What was assembled can be read; a fault has a place. */
    private static void assemble(ChainHouse x, Random r, int[] counts) {
        x.take(5);
        String text = text(r);
        text = text.substring(0, Math.min(text.length(), 560));
        int n = Check.assemble(x, r.nextInt(3), text);
        Check.due("a fault is told", n == Check.ARGUMENT, x.fault(0) != 0);
        Check.due("a place is told", n == Check.ARGUMENT, x.fault(1) >= 0 && x.fault(1) <= text.length());
        if (n > 0) {
            counts[0]++;
            for (int u = 0; u < 3; u++) {
                if (x.size(u) == n && Check.check(x, u) == 0) {
                    return;
                }
            }
            Check.due("what was assembled can be read", false, true);
        }
    }

    /** What was linked can be loaded. */
    private static void link(ChainHouse x, Random r, int[] counts) {
        int n = Check.link(x, r.nextInt(8), r.nextBoolean());
        if (n > 0) {
            counts[1]++;
            Check.due("size", x.size(-1), n);
            Check.due("load", x.load(), 0);
            Check.due("_start", Check.where(x, "_start"), x.get(32));
        }
    }

    private static String all(ChainHouse x) {
        StringBuilder s = new StringBuilder();
        for (int k = 0; k <= 32; k++) {
            s.append(x.get(k)).append(' ');
        }
        for (int k = 0; k < 7; k++) {
            s.append(x.state(k)).append(' ');
        }
        for (int k = 0; k < 30; k++) {
            s.append(x.peek(65536 + k)).append(' ');
        }
        return s.toString();
    }

    /** Steps that are taken back leave all as it was. */
    private static void backAndForth(ChainHouse x, Random r, int[] counts) {
        String before = all(x);
        int steps = x.state(3);
        x.run(r.nextInt(12));
        int n = x.state(3) - steps;
        if (n > 0 && n <= 100) {
            counts[3]++;
            Check.due("back", x.back(n), n);
            Check.due("all behind back", all(x), before);
        }
    }
}
