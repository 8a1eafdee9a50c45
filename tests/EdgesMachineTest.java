import java.util.Random;

/** Section 6, sentence by sentence: each STATE, the ends of memory, numbers that wrap, what is KEPT and forgotten, HALTS, INPUT and OUTPUT when they are full. */
public final class EdgesMachineTest {
    private static final String START = ".globl _start\n_start: ";
    private static final int BASE = 65536;

    public static void main(String[] args) {
        fresh();
        arithmetic();
        branches();
        uppers();
        loadsAndStores();
        memoryEnds();
        wrappedAddresses();
        fetchEnds();
        illegal();
        links();
        wild();
        unmarked();
        outputs();
        inputs();
        services();
        ends();
        values();
        units();
        steps();
        halts();
        haltAndLimits();
        kept();
        undone();
        forgotten();
        sets();
        tells();
        Check.end();
    }

    private static ChainHouse machine(String text) {
        ChainHouse x = Check.good(START + text);
        Check.linkAndLoad(x, 1, true);
        return x;
    }

    /** The machine with the segment of these RIGHTS (of files) at another address. */
    private static ChainHouse moved(String text, int rights, int address) {
        ChainHouse x = machine(text);
        int row = Check.imageRow(x, 1, rights);
        Check.put(x, -1, row + 28, 4, 1);
        Check.put(x, -1, row + 8, 4, address);
        Check.put(x, -1, row + 12, 4, address);
        if (rights == 5) {
            Check.put(x, -1, 24, 4, address);
        }
        Check.fixSum(x);
        Check.due("load", x.load(), 0);
        return x;
    }

    private static void state(ChainHouse x, int state, int culprit) {
        Check.due("the STATE", x.state(0), state);
        Check.due("the CULPRIT", x.state(1), culprit);
    }

    /** All but what is KEPT, in one number. */
    private static int all(ChainHouse x) {
        int sum = 0;
        for (int r = 1; r <= 32; r++) {
            sum = 31 * sum + x.get(r);
        }
        for (int k = 0; k < 9; k++) {
            sum = 31 * sum + (k == 7 ? 0 : x.state(k));
        }
        for (int k = 0; k < 8; k++) {
            sum = 31 * sum + x.peek(BASE + 16 + k);
        }
        return sum;
    }

    /** No segment, no mark, MARKING off. */
    private static void fresh() {
        ChainHouse x = new ChainHouse();
        for (int at : new int[] {0, 1, 65536, 131071, 131072, -1}) {
            Check.due("rights", x.rights(at), 0);
            Check.due("peek", x.peek(at), at >= 0 && at < 131072 ? 0 : -1);
        }
        Check.due("step", x.step(), 1);
        state(x, 1, 0);
        Check.due("run", x.run(2000), 0);
        Check.due("STEPS", x.state(3), 0);
        Check.due("back", x.back(1), 0);
        state(x, 1, 0);
        x.set(32, 131070);
        x.set(33, 0);
        state(x, 0, 0);
        Check.due("run", x.run(1), 0);
        state(x, 1, 131070);
        x.set(32, 0x7ffffffe);
        x.set(33, 0);
        Check.due("step", x.step(), 1);
        state(x, 1, 0x7ffffffe);
    }

    private static final int[] EDGES = {0, 1, -1, 2, -2, 3, 7, 31, 32, 33, 63, 64, 255, 256, 2047, 2048, -2048, -2049, 65535, 65536, 0x7fffffff, 0x80000000, 0x80000001, 0x7ffffffe, 0xffff0000, 0x55555555, 0xaaaaaaaa};

    private static int result(int kind, int x, int y) {
        long a = x & 0xffffffffL;
        long b = y & 0xffffffffL;
        switch (kind) {
            case 0: return x + y;
            case 1: return x - y;
            case 2: return x << y % 32 + (y % 32 < 0 ? 32 : 0);
            case 3: return Integer.compare(x, y) < 0 ? 1 : 0;
            case 4: return Integer.compareUnsigned(x, y) < 0 ? 1 : 0;
            case 5: return x ^ y;
            case 6: return (int) (a >> (b % 32));
            case 7: return (int) ((long) x >> (b % 32));
            case 8: return x | y;
            case 9: return x & y;
            case 10: return (int) ((long) x * y);
            case 11: return (int) Math.floorDiv((long) x * y, 1L << 32);
            case 12: return (int) Math.floorDiv(x * b, 1L << 32);
            case 13: return new java.math.BigInteger("" + a).multiply(new java.math.BigInteger("" + b)).shiftRight(32).intValue();
            case 14: return y == 0 ? -1 : (int) ((long) x / y);
            case 15: return y == 0 ? -1 : (int) (a / b);
            case 16: return y == 0 ? x : (int) ((long) x % y);
            default: return y == 0 ? x : (int) (a % b);
        }
    }

    private static void arithmetic() {
        String[] names = ("add sub sll slt sltu xor srl sra or and mul mulh mulhsu mulhu div divu rem remu").split(" ");
        Random r = new Random(7);
        StringBuilder s = new StringBuilder();
        for (int k = 0; k < names.length; k++) {
            s.append(names[k]).append(" s").append(k % 10 + 2).append(", a0, a1\n");
        }
        String text = s.toString();
        for (int n = 0; n < EDGES.length * EDGES.length + 200; n++) {
            boolean edge = n < EDGES.length * EDGES.length;
            int a0 = edge ? EDGES[n / EDGES.length] : r.nextInt();
            int a1 = edge ? EDGES[n % EDGES.length] : r.nextInt();
            ChainHouse x = n % 100 == 0 ? null : MACHINE;
            if (x == null || used > 380) {
                MACHINE = machine(text);
                used = 0;
            }
            x = MACHINE;
            x.set(32, BASE);
            x.set(10, a0);
            x.set(11, a1);
            used += 3;
            for (int k = 0; k < names.length; k++) {
                x.step();
                Check.due(names[k] + " of " + a0 + " and " + a1, x.get(18 + k % 10), result(k, a0, a1));
                used += 2;
            }
        }
        String[] immediate = ("addi slti sltiu xori ori andi").split(" ");
        int[] kinds = {0, 3, 4, 5, 8, 9};
        for (int i : new int[] {-2048, -1, 0, 1, 5, 2047}) {
            for (int k = 0; k < 6; k++) {
                ChainHouse x = machine(immediate[k] + " a2, a0, " + i + "\nnop");
                for (int a0 : EDGES) {
                    x.set(32, BASE);
                    x.set(10, a0);
                    x.step();
                    Check.due(immediate[k] + " of " + a0 + " and " + i, x.get(12), result(kinds[k], a0, i));
                }
            }
        }
        for (int i : new int[] {0, 1, 16, 31}) {
            ChainHouse x = machine("slli a2, a0, " + i + "\nsrli a3, a0, " + i + "\nsrai a4, a0, " + i + "\nnop");
            for (int a0 : EDGES) {
                x.set(32, BASE);
                x.set(10, a0);
                x.run(3);
                Check.due("slli", x.get(12), result(2, a0, i));
                Check.due("srli", x.get(13), result(6, a0, i));
                Check.due("srai", x.get(14), result(7, a0, i));
            }
        }
        // register 0 stays 0; the numbers that registers have ahead of the step count
        ChainHouse x = machine("addi zero, a0, 5\nmul zero, a0, a0\nlui zero, 5\nadd a0, a0, a0\nsub a1, a1, a1\nmv a2, zero");
        x.set(10, 7);
        x.set(11, 9);
        x.run(6);
        Check.due("register 0", x.get(0), 0);
        Check.due("a0", x.get(10), 14);
        Check.due("a1", x.get(11), 0);
        Check.due("a2", x.get(12), 0);
    }

    private static ChainHouse MACHINE;
    private static int used = 1000;

    private static void branches() {
        String[] names = ("beq bne blt bge bltu bgeu").split(" ");
        int[] edges = {0, 1, -1, 2, 0x7fffffff, 0x80000000, 0x80000001};
        for (int k = 0; k < 6; k++) {
            ChainHouse x = machine(names[k] + " a0, a1, f\n.option norvc\nnop\nf: nop");
            for (int a0 : edges) {
                for (int a1 : edges) {
                    int signed = Integer.compare(a0, a1);
                    int plain = Integer.compareUnsigned(a0, a1);
                    boolean[] jumps = {a0 == a1, a0 != a1, signed < 0, signed >= 0, plain < 0, plain >= 0};
                    x.set(32, BASE);
                    x.set(10, a0);
                    x.set(11, a1);
                    Check.due("step", x.step(), 0);
                    Check.due(names[k] + " of " + a0 + " and " + a1, x.get(32), jumps[k] ? BASE + 8 : BASE + 4);
                }
            }
        }
        // a branch that is not taken asks no mark; one that is taken does
        ChainHouse x = machine("beq a0, zero, _start + 4\n.option norvc\n.word 0x13\nnop");
        x.set(10, 1);
        Check.due("step", x.step(), 0);
        Check.due("PC", x.get(32), BASE + 4);
        x.set(32, BASE);
        x.set(10, 0);
        Check.due("step", x.step(), 5);
        state(x, 5, BASE + 4);
    }

    private static void uppers() {
        for (int i : new int[] {0, 1, 0x7ffff, 0x80000, 0xfffff}) {
            ChainHouse x = machine("nop\n.option norvc\nlui a0, " + i + "\nauipc a1, " + i);
            x.run(3);
            Check.due("lui", x.get(10), i << 12);
            Check.due("auipc", x.get(11), BASE + 6 + (i << 12));
        }
    }

    /** Offsets of -2048 to 2047, each width, bytes with sign and without. */
    private static void loadsAndStores() {
        String data = "\n.data\n.byte 0x80, 0x81, 0x82, 0x83, 0x84, 0x85, 0x86, 0x87, 1, 2, 3, 4";
        int d = BASE + 16;
        String[] loads = {"lb", "lh", "lw", "lbu", "lhu"};
        int[] widths = {1, 2, 4, 1, 2};
        for (int i : new int[] {-2048, -4, -1, 0, 1, 3, 4, 2044, 2047}) {
            for (int k = 0; k < 5; k++) {
                for (int at = 0; at < 12; at += widths[k]) {
                    ChainHouse x = machine(loads[k] + " a0, " + i + "(a1)" + data);
                    x.set(11, d + at - i);
                    Check.due("load", x.step(), 0);
                    int v = 0;
                    for (int b = widths[k] - 1; b >= 0; b--) {
                        v = v << 8 | (at + b < 8 ? 0x80 + at + b : at + b - 7);
                    }
                    v = k == 0 ? (byte) v : k == 1 ? (short) v : v;
                    Check.due(loads[k] + " at " + at, x.get(10), v);
                }
            }
            String[] stores = {"sb", "sh", "sw"};
            for (int k = 0; k < 3; k++) {
                ChainHouse x = machine(stores[k] + " a0, " + i + "(a1)" + data);
                x.set(10, 0xa1b2c3d4);
                x.set(11, d + 4 - i);
                Check.due("store", x.step(), 0);
                for (int b = 0; b < 12; b++) {
                    int was = b < 8 ? 0x80 + b : b - 7;
                    int is = b >= 4 && b < 4 + (1 << k) ? 0xa1b2c3d4 >>> 8 * (b - 4) & 255 : was;
                    Check.due(stores[k] + ", byte " + b, x.peek(d + b), is);
                }
                Check.due("back", x.back(1), 1);
                for (int b = 0; b < 12; b++) {
                    Check.due("byte behind back", x.peek(d + b), b < 8 ? 0x80 + b : b - 7);
                }
            }
        }
        // d as a
        ChainHouse x = machine("lw a1, 4(a1)\nsw a1, 0(a2)" + data);
        x.set(11, d);
        x.set(12, d);
        x.run(2);
        Check.due("d", x.get(11), 0x87868584);
        Check.due("the byte", x.peek(d), 0x84);
        // a load into register 0 fails like any
        x = machine("lw zero, 0(a1)" + data);
        Check.due("load", x.step(), 3);
        x.set(33, 0);
        x.set(11, d);
        Check.due("load", x.step(), 0);
        Check.due("register 0", x.get(0), 0);
    }

    /** LOAD and STORE: no multiple, no right to read or write, at each segment's first and last bytes and at memory's. */
    private static void memoryEnds() {
        String[] names = {"lb", "lh", "lw", "lbu", "lhu", "sb", "sh", "sw"};
        int[] widths = {1, 2, 4, 1, 2, 1, 2, 4};
        String more = "\nnop\n.rodata\n.byte 1, 2, 3, 4, 5\n.data\n.byte 1, 2, 3, 4, 5, 6\n.bss\n.zero 1";
        for (int k = 0; k < 8; k++) {
            boolean load = k < 5;
            ChainHouse x = machine(names[k] + " a0, 0(a1)" + more);
            int count = 0;
            // TEXT 65536 .. 65542, CONST 65552 .. 65557, DATA 65568 .. 65575
            for (int at = BASE - 4; at < BASE + 46; at++) {
                boolean may = at % widths[k] == 0;
                for (int b = at; b < at + widths[k]; b++) {
                    boolean data = b >= BASE + 32 && b < BASE + 39;
                    boolean other = b >= BASE && b < BASE + 6 || b >= BASE + 16 && b < BASE + 21;
                    may = may && (data || load && other);
                }
                if (count == 15) {
                    x = machine(names[k] + " a0, 0(a1)" + more);
                    count = 0;
                }
                count++;
                x.set(32, BASE);
                x.set(33, 0);
                x.set(11, at);
                int before = x.state(3);
                Check.due(names[k] + " at " + at, x.step(), may ? 0 : load ? 3 : 4);
                Check.due("CULPRIT", x.state(1), may ? 0 : at);
                Check.due("STEPS", x.state(3), before + (may ? 1 : 0));
                Check.due("PC", x.get(32), BASE + (!may ? 0 : Check.told(x, BASE).startsWith("c.") ? 2 : 4));
            }
            // DATA up to memory's end
            x = moved(names[k] + " a0, 0(a1)\n.data\n.zero 8", 6, 131064);
            for (int at : new int[] {131060, 131062, 131063, 131064, 131068, 131069, 131070, 131071, 131072, 131074, 131076, 0x7fffffff, 0x80000000, -1, -2, -4}) {
                boolean may = at % widths[k] == 0 && at >= 131064 && at + (long) widths[k] <= 131072;
                x.set(32, BASE);
                x.set(33, 0);
                x.set(11, at);
                Check.due(names[k] + " at " + at, x.step(), may ? 0 : load ? 3 : 4);
                Check.due("CULPRIT", x.state(1), may ? 0 : at);
            }
            // DATA from address 0 on
            x = moved(names[k] + " a0, 0(a1)\n.data\n.zero 8", 6, 0);
            for (int at : new int[] {0, 1, 2, 3, 4, 5, 6, 7, 8, -1, -2, -4, 0x80000000}) {
                boolean may = at % widths[k] == 0 && at >= 0 && at + widths[k] <= 8;
                x.set(32, BASE);
                x.set(33, 0);
                x.set(11, at);
                Check.due(names[k] + " at " + at, x.step(), may ? 0 : load ? 3 : 4);
            }
        }
    }

    /** An address is a + i, wrapping. */
    private static void wrappedAddresses() {
        ChainHouse x = moved("lw a0, 2044(a1)\nsw a2, -4(a3)\nlb a0, -1(a4)\n.data\n.word 0x11223344, 0x55667788", 6, 0);
        x.set(11, -2040);
        Check.due("step", x.step(), 0);
        Check.due("loaded", x.get(10), 0x55667788);
        x.set(12, 0x01020304);
        x.set(13, 4);
        Check.due("step", x.step(), 0);
        Check.due("stored", x.peek(0), 4);
        x.set(14, 0x80000000);
        Check.due("step", x.step(), 3);
        state(x, 3, 0x7fffffff);
        x.set(33, 0);
        x.set(14, 0);
        Check.due("step", x.step(), 3);
        state(x, 3, -1);
        // a target wraps, too
        x = moved("j _start - 4\nnop\n", 5, 0);
        Check.due("step", x.step(), 5);
        state(x, 5, -4);
        Check.due("PC", x.get(32), -4);
        x.set(33, 0);
        Check.due("step", x.step(), 1);
        state(x, 1, -4);
        x = moved("jalr a0, 8(a1)\nnop\nmul a0, a0, a0\nnop", 5, 0);
        x.set(11, -4);
        Check.due("step", x.step(), 0);
        Check.due("PC", x.get(32), 4);
        Check.due("link", x.get(10), 4);
        x = moved("auipc a0, 0xfffff", 5, 0);
        Check.due("step", x.step(), 0);
        Check.due("auipc", x.get(10), -4096);
    }

    /** FETCH: the first byte of the word without the right to execute; memory's end. */
    private static void fetchEnds() {
        // TEXT up to memory's end: a short word, a long one, a long one of which the upper half is beyond
        ChainHouse x = moved("nop\nnop", 5, 131068);
        Check.due("run", x.run(5), 2);
        state(x, 1, 131072);
        Check.due("PC stays", x.get(32), 131072);
        x = moved("nop\nmul a0, a0, a0\n.half 3", 5, 131064);
        Check.due("run", x.run(2), 2);
        Check.due("PC", x.get(32), 131070);
        Check.due("step", x.step(), 1);
        state(x, 1, 131072);
        Check.due("PC stays", x.get(32), 131070);
        Check.due("STEPS", x.state(3), 2);
        x = moved("mul a0, a0, a0", 5, 131068);
        Check.due("step", x.step(), 0);
        Check.due("PC", x.get(32), 131072);
        // the upper half in CONST, which may not be worked
        x = machine("nop\n.half 3");
        int row = Check.imageRow(x, 1, 5);
        Check.due("row", row >= 0, true);
        x.step();
        Check.due("step", x.step(), 1);
        state(x, 1, BASE + 4);
        x = machine("nop\n.rodata\n.half 1\n.data\n.half 1");
        for (int at : new int[] {BASE + 16, BASE + 32, BASE + 2, BASE - 2, 0, 131070}) {
            x.set(32, at);
            x.set(33, 0);
            Check.due("step", x.step(), 1);
            state(x, 1, at);
        }
        // FETCH ahead of ILLEGAL
        x = machine("nop\n.half 0x7f");
        x.step();
        Check.due("step", x.step(), 1);
        state(x, 1, BASE + 4);
    }

    private static void illegal() {
        for (String w : new String[] {".half 0", ".word 0x7f", ".word 0xffffffff", ".half 0x9c01", ".word 0x100f", ".word 0x00200073", ".half 0x8002", ".word 0x3003", ".word 0x02001013"}) {
            ChainHouse x = machine("nop\n" + w + "\n.word 0");
            x.step();
            int before = all(x);
            Check.due("step of " + w, x.step(), 2);
            state(x, 2, BASE + 2);
            Check.due("PC stays", x.get(32), BASE + 2);
            Check.due("STEPS", x.state(3), 1);
            Check.due("UNITS", x.state(4), 1);
            Check.due("KEPT", x.state(7), 1);
            Check.due("again", x.step(), 2);
            Check.due("run", x.run(5), 0);
            x.set(33, 1);
            Check.due("all is as it was", all(x), before);
        }
    }

    private static void links() {
        ChainHouse x = machine("jal a0, f\nnop\nf: c.jal g\nnop\ng: nop");
        x.step();
        Check.due("d of a long one", x.get(10), BASE + 4);
        Check.due("PC", x.get(32), BASE + 6);
        x.step();
        Check.due("ra of a short one", x.get(1), BASE + 8);
        Check.due("PC", x.get(32), BASE + 10);
        for (int i : new int[] {-2048, -2, -1, 0, 1, 2047}) {
            x = machine("jalr a1, " + i + "(a1)\nf: nop");
            int f = BASE + (Check.told(x, BASE).startsWith("c.") ? 2 : 4);
            for (int bit = 0; bit < 2; bit++) {
                x.set(32, BASE);
                x.set(33, 0);
                x.set(11, f - i + (bit == 1 ? 1 : 0));
                Check.due("step", x.step(), 0);
                Check.due("PC, less its bit 0", x.get(32), f);
                Check.due("link", x.get(11), f);
            }
        }
        x = machine("nop\nc.jalr a1\nnop");
        x.set(11, BASE + 1);
        x.run(2);
        Check.due("PC", x.get(32), BASE);
        Check.due("link", x.get(1), BASE + 4);
        x = machine("nop\nc.jr a1\nnop");
        x.set(11, BASE);
        x.set(1, 5);
        x.run(2);
        Check.due("PC", x.get(32), BASE);
        Check.due("no link", x.get(1), 5);
    }

    /** WILD: the target is not marked, or beyond memory; it counts as a step, d has come, PC is the target. */
    private static void wild() {
        int[] targets = {BASE + 2, BASE + 8, BASE - 2, BASE + 4096, 0, 131070, 131072, 131074, 0x7ffffffe, 0x80000000, -2, BASE + 6};
        for (int target : targets) {
            ChainHouse x = machine("jalr a0, 0(a1)\nnop\n.half 1");
            x.set(11, target);
            Check.due("step to " + target, x.step(), 5);
            state(x, 5, target);
            Check.due("PC", x.get(32), target);
            Check.due("d", x.get(10), BASE + 4);
            Check.due("STEPS", x.state(3), 1);
            Check.due("UNITS", x.state(4), 1);
            Check.due("KEPT", x.state(7), 1);
            Check.due("nothing more is done", x.step(), 5);
            Check.due("back", x.back(1), 1);
            state(x, 0, 0);
            Check.due("d", x.get(10), 0);
            Check.due("PC", x.get(32), BASE);
        }
        for (int target : new int[] {BASE, BASE + 1, BASE + 4, BASE + 5}) {
            ChainHouse x = machine("jalr a0, 0(a1)\nnop\n.half 1");
            x.set(11, target);
            Check.due("step to " + target, x.step(), 0);
            Check.due("PC", x.get(32), target & ~1);
        }
        // set() may put PC where no mark is
        ChainHouse x = machine("j _start + 4\nnop\nnop");
        Check.due("step", x.step(), 0);
        x = machine("j _start + 6\n.half 1\nnop");
        Check.due("step", x.step(), 0);
        x = machine("j _start + 4\n.half 1\nnop");
        Check.due("step", x.step(), 5);
    }

    /** A step at an address that is not marked is a STEP and no UNIT. */
    private static void unmarked() {
        ChainHouse x = machine("nop\n.half 1, 1\nnop");
        for (int k = 1; k <= 4; k++) {
            Check.due("step", x.step(), 0);
            Check.due("STEPS", x.state(3), k);
            Check.due("UNITS", x.state(4), k == 4 ? 2 : 1);
        }
        Check.due("back", x.back(2), 2);
        Check.due("STEPS", x.state(3), 2);
        Check.due("UNITS", x.state(4), 1);
    }

    /** PUT: 2000 bytes may be, the 2001st not. */
    private static void outputs() {
        ChainHouse x = machine("f: ecall\nmv a1, a0\nmv a0, a2\nj f");
        x.set(17, 1);
        x.set(10, 0x101);
        x.set(12, 0xfff);
        // 4 UNITS a byte
        for (int k = 0; k < 3; k++) {
            Check.due("run", x.run(2000), 2000);
        }
        Check.due("run", x.run(1996), 1996);
        Check.due("OUTPUT", x.state(5), 1999);
        Check.due("how many", x.get(11), 1999);
        Check.due("the first", x.output(0), 1);
        Check.due("the last", x.output(1998), 255);
        Check.due("behind it", x.output(1999), -1);
        Check.due("run", x.run(4), 4);
        Check.due("OUTPUT", x.state(5), 2000);
        Check.due("how many", x.get(11), 2000);
        Check.due("the last", x.output(1999), 255);
        Check.due("step", x.step(), 0);
        Check.due("no room", x.get(10), -1);
        Check.due("OUTPUT", x.state(5), 2000);
        Check.due("behind it", x.output(2000), -1);
        for (int k : new int[] {-1, 2001, 2147483647, -2147483648}) {
            Check.due("output", x.output(k), -1);
        }
        Check.due("back", x.back(1), 1);
        Check.due("OUTPUT", x.state(5), 2000);
        Check.due("back", x.back(4), 4);
        Check.due("OUTPUT", x.state(5), 1999);
        Check.due("output", x.output(1999), -1);
        Check.due("step", x.step(), 0);
        Check.due("OUTPUT", x.state(5), 2000);
        for (int v : new int[] {0, 127, 128, 255, 256, -1, 0x12345678}) {
            x = machine("ecall");
            x.set(17, 1);
            x.set(10, v);
            x.step();
            Check.due("the lowest byte", x.output(0), v & 255);
            Check.due("how many", x.get(10), 1);
        }
    }

    /** INPUT: 1000 bytes may be, with those that were taken; GET without one takes nothing. */
    private static void inputs() {
        ChainHouse x = machine("f: ecall\nj f");
        x.set(17, 2);
        Check.due("run", x.run(6), 6);
        Check.due("GET of nothing", x.get(10), -1);
        Check.due("left", x.state(6), 0);
        for (int n : new int[] {0, 9, -1, 2147483647, -2147483648}) {
            Check.due("input " + n, x.input(n, -1L), false);
        }
        Check.due("left", x.state(6), 0);
        Check.due("input", x.input(2, 0x8001ffffffffffffL), true);
        Check.due("left", x.state(6), 2);
        x.step();
        Check.due("GET", x.get(10), 128);
        x.run(2);
        Check.due("GET", x.get(10), 1);
        x.run(2);
        Check.due("GET of nothing", x.get(10), -1);
        Check.due("left", x.state(6), 0);
        for (int n = 1; n <= 8; n++) {
            Check.due("input", x.input(n, 0x0102030405060708L), true);
            Check.due("left", x.state(6), n);
            for (int k = 1; k <= n; k++) {
                x.set(32, BASE);
                x.step();
                Check.due("GET", x.get(10), k);
            }
        }
        // 2 + 36 were taken
        for (int k = 0; k < 120; k++) {
            Check.due("input", x.input(8, k), true);
        }
        Check.due("left", x.state(6), 960);
        for (int n = 3; n <= 8; n++) {
            Check.due("input beyond", x.input(n, 1), false);
        }
        Check.due("left", x.state(6), 960);
        Check.due("input", x.input(1, 1), true);
        Check.due("input beyond", x.input(2, 1), false);
        Check.due("input", x.input(1, 1), true);
        Check.due("input beyond", x.input(1, 1), false);
        Check.due("left", x.state(6), 962);
        x = new ChainHouse();
        for (int k = 0; k < 124; k++) {
            Check.due("input", x.input(8, k), true);
        }
        Check.due("input beyond", x.input(8, 1) && x.input(1, 1), false);
        Check.due("left", x.state(6), 1000);
    }

    private static void services() {
        for (int service : new int[] {0, 4, 5, 9, 11, 12, -1, 257, 258, 266, 0x80000001, 0x7fffffff, 93}) {
            ChainHouse x = machine("ecall\nnop");
            x.set(17, service);
            x.set(10, 5);
            Check.due("service " + service, x.step(), 7);
            state(x, 7, BASE);
            Check.due("PC stays", x.get(32), BASE);
            Check.due("STEPS", x.state(3), 1);
            Check.due("UNITS", x.state(4), 1);
            Check.due("register 10", x.get(10), 5);
            Check.due("again", x.step(), 7);
            Check.due("STEPS", x.state(3), 1);
        }
        // CLOCK: STEPS ahead of this one, those that are no UNITS too
        ChainHouse x = machine("li a7, 3\n.half 1, 1\necall\nnop\necall");
        x.run(2);
        Check.due("CLOCK", x.get(10), 3);
        x.run(2);
        Check.due("CLOCK", x.get(10), 5);
        x.back(1);
        Check.due("CLOCK", x.get(10), 3);
        x.step();
        Check.due("CLOCK", x.get(10), 5);
        x = machine("ecall");
        x.set(17, 3);
        x.set(10, 9);
        x.step();
        Check.due("CLOCK", x.get(10), 0);
    }

    /** ENDS: nothing more is done until the STATE is set; what failed can be tried again. */
    private static void ends() {
        String[] texts = {"ebreak", "c.ebreak", ".option norvc\nebreak", "ecall"};
        for (String text : texts) {
            ChainHouse x = machine("nop\n" + text + "\nnop");
            Check.due("run", x.run(5), 2);
            int state = text.equals("ecall") ? 7 : 6;
            int at = x.get(32);
            state(x, state, at);
            Check.due("STEPS", x.state(3), 2);
            int before = all(x);
            for (int k = 0; k < 3; k++) {
                Check.due("step", x.step(), state);
                Check.due("run", x.run(2000), 0);
            }
            Check.due("all is as it was", all(x), before);
            Check.due("KEPT", x.state(7), 2);
            x.set(32, at + 2);
            state(x, state, at);
            Check.due("step", x.step(), state);
            Check.due("set", x.set(33, 77), true);
            state(x, 0, 0);
        }
        // STATE 9 is no END
        ChainHouse x = machine("nop\nnop\nnop");
        x.halt(BASE + 2, true);
        x.run(9);
        state(x, 9, BASE + 2);
        Check.due("step", x.step(), 0);
        state(x, 0, 0);
        Check.due("set", x.set(32, BASE), true);
        x.run(9);
        state(x, 9, BASE + 2);
        Check.due("the STATE stays with PC set", x.set(32, BASE + 4), true);
        state(x, 9, BASE + 2);
        x.set(33, 0);
        state(x, 0, 0);
    }

    /** VALUE is that of the latest END by a service, and comes back. */
    private static void values() {
        ChainHouse x = machine("nop\necall");
        x.set(17, 10);
        x.set(10, 5);
        x.run(9);
        state(x, 8, BASE + 2);
        Check.due("VALUE", x.state(2), 5);
        x.set(33, 0);
        Check.due("VALUE stays", x.state(2), 5);
        x.set(32, BASE);
        x.set(10, -7);
        x.run(9);
        Check.due("VALUE", x.state(2), -7);
        Check.due("STEPS", x.state(3), 4);
        Check.due("back", x.back(1), 1);
        Check.due("VALUE comes back", x.state(2), 5);
        state(x, 0, 0);
        Check.due("PC", x.get(32), BASE + 2);
        Check.due("back", x.back(9), 1);
        Check.due("VALUE", x.state(2), 5);
        // another end leaves it
        x = machine("ecall\necall\nebreak");
        x.set(17, 10);
        x.set(10, 3);
        x.step();
        x.set(33, 0);
        x.set(32, BASE + 8);
        Check.due("step", x.step(), 6);
        Check.due("VALUE", x.state(2), 3);
    }

    /** run(): n UNITS at most. */
    private static void units() {
        ChainHouse x = machine("nop\n.half 1, 1\nnop\n.half 1\nj _start");
        for (int n : new int[] {-1, 2001, 2147483647, -2147483648}) {
            Check.due("run", x.run(n), -1);
        }
        Check.due("run(0)", x.run(0), 0);
        Check.due("STEPS", x.state(3), 0);
        Check.due("run(1)", x.run(1), 1);
        Check.due("STEPS: up to the next UNIT", x.state(3), 3);
        Check.due("run(0)", x.run(0), 0);
        Check.due("STEPS", x.state(3), 3);
        Check.due("run(2)", x.run(2), 2);
        Check.due("STEPS", x.state(3), 6);
        Check.due("UNITS", x.state(4), 3);
        x.step();
        Check.due("run(0) ends a UNIT", x.run(0), 0);
        Check.due("STEPS", x.state(3), 9);
        Check.due("run(2000)", x.run(2000), 2000);
        Check.due("UNITS", x.state(4), 2004);
        // what would fail isn't tried above n
        x = machine("nop\n.half 0");
        Check.due("run(1)", x.run(1), 1);
        state(x, 2, BASE + 2);
        x = machine("nop\nlw a0, 0(zero)");
        Check.due("run(1)", x.run(1), 1);
        state(x, 0, 0);
        Check.due("run(0)", x.run(0), 0);
        state(x, 0, 0);
        Check.due("run(1)", x.run(1), 0);
        state(x, 3, 0);
        // an END within the UNITS
        x = machine("nop\nnop\nebreak\nnop");
        Check.due("run(9)", x.run(9), 3);
        Check.due("run(9)", x.run(9), 0);
    }

    /** 20,000 STEPS of one call at most. */
    private static void steps() {
        ChainHouse x = new ChainHouse();
        Check.assemble(x, 0, START + "nop\n.zero 2046");
        Check.assemble(x, 1, ".zero 2044\nj _start");
        Check.linkAndLoad(x, 3, true);
        Check.due("run: 0 is ILLEGAL", x.run(5), 1);
        state(x, 2, BASE + 2);
        x = machine("nop\n.half 1" + ",1".repeat(28) + "\nj _start\n");
        Check.due("run(2000)", x.run(2000), 2 * 645 + 1);
        Check.due("STEPS", x.state(3), 20000);
        state(x, 0, 0);
        int at = x.get(32);
        // the next call goes on there
        x.step();
        Check.due("PC", x.get(32) == at + 2 || x.get(32) == at + 4 || x.get(32) == BASE, true);
        Check.due("STEPS", x.state(3), 20001);
        x.load();
        x.halt(at, true);
        Check.due("the HALT is met ahead", x.run(2000) < 40, true);
        state(x, 9, at);
    }

    private static void halts() {
        ChainHouse x = new ChainHouse();
        for (int at : new int[] {1, 3, -1, -2, 2147483647, -2147483648, -65536}) {
            Check.due("halt at " + at, x.halt(at, true), false);
            Check.due("none there", x.halt(at, false), false);
        }
        Check.due("HALTS", x.state(8), 0);
        int[] places = {0, 2, 131070, 131072, 2147483646, 65536, 4, 6};
        for (int k = 0; k < 8; k++) {
            Check.due("none yet", x.halt(places[k], false), false);
            Check.due("halt", x.halt(places[k], true), true);
            Check.due("it is so already", x.halt(places[k], true), false);
            Check.due("HALTS", x.state(8), k + 1);
        }
        Check.due("a ninth one", x.halt(8, true), false);
        Check.due("HALTS", x.state(8), 8);
        // each in turn is taken away and comes again; the others stay
        for (int k = 0; k < 8; k++) {
            Check.due("no HALT any more", x.halt(places[k], false), true);
            Check.due("HALTS", x.state(8), 7);
            Check.due("it is so already", x.halt(places[k], false), false);
            for (int j = 0; j < 8; j++) {
                if (j != k) {
                    Check.due("the others stay", x.halt(places[j], true), false);
                }
            }
            Check.due("another one", x.halt(8 + 2 * k, true), true);
            Check.due("HALTS", x.state(8), 8);
            Check.due("taken away", x.halt(8 + 2 * k, false), true);
            Check.due("halt", x.halt(places[k], true), true);
        }
        // what run() meets, in any order of halts
        for (int first = 0; first < 3; first++) {
            x = machine("nop\nnop\nnop\nnop\nnop");
            for (int k = 0; k < 3; k++) {
                x.halt(BASE + 2 + 2 * k, true);
            }
            x.halt(BASE + 2 + 2 * first, false);
            int want = first == 0 ? BASE + 4 : BASE + 2;
            Check.due("run", x.run(9), first == 0 ? 2 : 1);
            state(x, 9, want);
            Check.due("run", x.run(9), first == 1 ? 2 : 1);
            state(x, 9, first == 2 ? BASE + 4 : BASE + 6);
        }
    }

    /** A HALT is asked ahead of the UNITS and the 20,000 STEPS; not ahead of the first STEP. */
    private static void haltAndLimits() {
        ChainHouse x = machine("nop\nnop\nnop\nj _start");
        x.halt(BASE + 4, true);
        Check.due("run(2)", x.run(2), 2);
        state(x, 9, BASE + 4);
        Check.due("run(0): no first STEP", x.run(0), 0);
        state(x, 9, BASE + 4);
        Check.due("run(1)", x.run(1), 1);
        state(x, 0, 0);
        Check.due("PC", x.get(32), BASE + 6);
        x.load();
        x.halt(BASE + 4, true);
        Check.due("run(1)", x.run(1), 1);
        state(x, 0, 0);
        // at the first STEP of this call it is not asked, with step() never
        x.load();
        x.halt(BASE, true);
        x.halt(BASE + 2, true);
        Check.due("run", x.run(9), 1);
        state(x, 9, BASE + 2);
        Check.due("step", x.step(), 0);
        Check.due("step", x.step(), 0);
        Check.due("step", x.step(), 0);
        Check.due("PC", x.get(32), BASE);
        Check.due("run", x.run(9), 1);
        state(x, 9, BASE + 2);
        // where no mark is
        x = machine("nop\n.half 1, 1\nnop");
        x.halt(BASE + 4, true);
        Check.due("run", x.run(9), 1);
        state(x, 9, BASE + 4);
        Check.due("STEPS", x.state(3), 2);
        // at the 20,001st STEP
        x = machine("nop\n.half 1" + ",1".repeat(28) + "\nj _start\n");
        x.run(2000);
        Check.due("STEPS", x.state(3), 20000);
        // 30 unmarked steps around, counted: the HALT is where the 20,000th step of the call leads
        String loop = "f: addi a0, a0, -1\n.half 1" + ",1".repeat(27) + "\nbnez a0, f\n.half 1" + ",1".repeat(19) + "\ng: nop";
        x = machine(loop);
        int round = 30;
        x.set(10, 20000 / round);
        Check.due("told", Check.told(x, BASE), "c.addi a0, -1");
        // 666 rounds of 30 steps are 19,980; 20 more lead to g
        Check.due("run", x.run(2000), 2 * 666);
        Check.due("STEPS", x.state(3), 20000);
        int g = x.get(32);
        state(x, 0, 0);
        x.load();
        x.set(10, 20000 / round);
        x.halt(g, true);
        Check.due("run", x.run(2000), 2 * 666);
        Check.due("STEPS", x.state(3), 20000);
        state(x, 9, g);
        // one step less than that: the HALT two bytes on is not met
        x.load();
        x.halt(g, false);
        x.halt(g + 2, true);
        x.set(10, 20000 / round);
        x.run(2000);
        state(x, 0, 0);
        Check.due("run", x.run(2000), Check.told(x, g).equals("c.nop") && (x.rights(g) & 8) != 0 ? 1 : 0);
        state(x, 9, g + 2);
    }

    /** The last 100 steps are KEPT. */
    private static void kept() {
        for (int n : new int[] {1, 99, 100, 101, 250}) {
            ChainHouse x = machine("f: addi a0, a0, 1\nj f");
            x.run(n);
            int most = Math.min(n, 100);
            Check.due("KEPT", x.state(7), most);
            Check.due("back of one less", x.back(most - 1), most - 1);
            Check.due("KEPT", x.state(7), 1);
            Check.due("STEPS", x.state(3), n - most + 1);
            Check.due("back", x.back(2), 1);
            Check.due("STEPS", x.state(3), n - most);
            Check.due("a0", x.get(10), (n - most + 1) / 2);
            Check.due("nothing is left", x.back(1), 0);
            x.run(n);
            Check.due("back of more", x.back(2147483647), most);
            Check.due("KEPT", x.state(7), 0);
        }
        for (int n : new int[] {0, -1, -2147483648}) {
            ChainHouse x = machine("nop\nnop");
            x.run(2);
            Check.due("back", x.back(n), 0);
            Check.due("KEPT", x.state(7), 2);
            Check.due("STEPS", x.state(3), 2);
        }
        // taken back and done again, beyond 100 in all
        ChainHouse x = machine("f: addi a0, a0, 1\nj f");
        x.run(70);
        for (int k = 0; k < 20; k++) {
            x.back(30);
            x.run(40);
        }
        Check.due("KEPT", x.state(7), 100);
        Check.due("STEPS", x.state(3), 270);
        Check.due("back", x.back(100), 100);
        Check.due("a0", x.get(10), 85);
    }

    /** All that a step changes comes back: each sort of it. */
    private static void undone() {
        String text = "li a7, 1\nli a0, 300\necall\nli a7, 2\necall\necall\nli a7, 3\necall\nsw a0, 0(gp)\nsh a0, 4(gp)\nsb a0, 7(gp)\nlw a3, 4(gp)\njal a4, f\nnop\nf: auipc a5, 5\nlui a6, 9\nbeqz zero, g\nnop\ng: mul s2, a0, a0\nc.jal h\nnop\nh: li a7, 10\necall\n.data\n.word 0x01020304, 0x05060708";
        int n = 20;
        int[] sums = new int[n + 1];
        for (int k = 0; k <= n; k++) {
            ChainHouse x = stepped(text, k);
            Check.due("STATE", x.state(0), k == n ? 8 : 0);
            sums[k] = sum(x);
        }
        for (int k = 0; k < n; k++) {
            ChainHouse x = stepped(text, k + 1);
            Check.due("back", x.back(1), 1);
            Check.due("all ahead of step " + k, sum(x), sums[k]);
            x = stepped(text, n);
            Check.due("back", x.back(n - k), n - k);
            Check.due("all ahead of step " + k, sum(x), sums[k]);
            Check.due("run", x.run(100), n - k);
            Check.due("all at the end", sum(x), sums[n]);
        }
        ChainHouse x;
        // what failed goes with the step that counts; STATE 9 and its CULPRIT come back
        x = machine("nop\nnop\nlw a0, 0(zero)");
        x.halt(BASE + 2, true);
        x.run(5);
        state(x, 9, BASE + 2);
        Check.due("run", x.run(5), 1);
        state(x, 3, 0);
        Check.due("KEPT", x.state(7), 2);
        Check.due("back", x.back(1), 1);
        state(x, 9, BASE + 2);
        Check.due("back", x.back(1), 1);
        state(x, 0, 0);
        // what failed alone can't be taken back
        x = machine("lw a0, 0(zero)");
        x.step();
        state(x, 3, 0);
        Check.due("back", x.back(1), 0);
        state(x, 3, 0);
        // of an END, too
        for (String end : new String[] {"ebreak", "ecall", "j _start + 4"}) {
            x = machine("nop\n" + end);
            x.run(5);
            Check.due("an END", x.state(0) >= 5 && x.state(0) <= 7, true);
            Check.due("back", x.back(1), 1);
            state(x, 0, 0);
            Check.due("PC", x.get(32), BASE + 2);
            Check.due("STEPS", x.state(3), 1);
            Check.due("UNITS", x.state(4), 1);
        }
    }

    /** A machine with DATA at register 3 and a byte of INPUT, so many steps on. */
    private static ChainHouse stepped(String text, int steps) {
        ChainHouse x = machine(text);
        x.set(3, Check.number(x, -1, Check.imageRow(x, 1, 6) + 8, 4));
        x.input(1, 0x4200000000000000L);
        x.run(steps);
        return x;
    }

    private static int sum(ChainHouse x) {
        int sum = 0;
        for (int r : new int[] {1, 2, 3, 10, 13, 14, 15, 16, 17, 18, 32}) {
            sum = 31 * sum + x.get(r);
        }
        for (int k = 0; k < 7; k++) {
            sum = 31 * sum + x.state(k);
        }
        int data = x.get(3);
        for (int k = 0; k < 8; k++) {
            sum = 31 * sum + x.peek(data + k);
        }
        return 31 * sum + x.output(0);
    }

    /** What forgets the KEPT steps, and what doesn't. */
    private static void forgotten() {
        ChainHouse x = machine("f: addi a0, a0, 1\nj f");
        x.run(4);
        // what is refused, asked or of other things
        x.set(0, 1);
        x.set(-1, 1);
        x.set(34, 1);
        x.set(32, 3);
        x.input(0, 1);
        x.input(9, 1);
        x.halt(1, true);
        x.halt(-2, true);
        x.halt(2, false);
        x.run(-1);
        x.run(2001);
        x.run(0);
        x.back(0);
        x.get(5);
        x.peek(5);
        x.tell(BASE);
        x.rights(BASE);
        x.output(0);
        x.feed(1, 2, 3, 4, 5);
        x.end(20);
        Check.assemble(x, 1);
        Check.link(x, 1, false);
        x.check(0);
        x.cut(-1, 10);
        Check.due("load", x.load(), 1);
        Check.due("KEPT", x.state(7), 4);
        Check.due("back", x.back(1), 1);
        Check.due("KEPT", x.state(7), 3);
        for (int k = 0; k < 8; k++) {
            x.run(3);
            Check.due("KEPT", x.state(7) >= 3, true);
            boolean done = false;
            switch (k) {
                case 0: done = x.set(1, 0); break;
                case 1: done = x.set(31, 5); break;
                case 2: done = x.set(32, BASE); break;
                case 3: done = x.set(33, 5); break;
                case 4: done = x.input(1, 5); break;
                case 5: done = x.halt(0, true); break;
                case 6: done = x.halt(0, false); break;
                default: done = Check.link(x, 1, true) > 0 && x.load() == 0; break;
            }
            Check.due("done", done, true);
            Check.due("KEPT", x.state(7), 0);
            Check.due("back", x.back(5), 0);
        }
        // a full INPUT, a ninth HALT and a HALT that is there are refused: they forget nothing
        x = machine("f: addi a0, a0, 1\nj f");
        for (int k = 0; k < 125; k++) {
            x.input(8, 1);
        }
        for (int k = 0; k < 8; k++) {
            x.halt(2 * k, true);
        }
        x.run(5);
        Check.due("input", x.input(1, 1), false);
        Check.due("halt", x.halt(100, true), false);
        Check.due("halt", x.halt(0, true), false);
        Check.due("halt", x.halt(100, false), false);
        Check.due("KEPT", x.state(7), 5);
    }

    private static void sets() {
        ChainHouse x = machine("nop\nnop");
        for (int r : new int[] {0, -1, 34, 35, 2147483647, -2147483648}) {
            Check.due("set of " + r, x.set(r, 2), false);
            Check.due("get of " + r, x.get(r), 0);
        }
        for (int r = 1; r < 32; r++) {
            for (int v : new int[] {-1, 0x80000000, 0x7fffffff, r}) {
                Check.due("set of " + r, x.set(r, v), true);
                Check.due("get of " + r, x.get(r), v);
            }
        }
        for (int r = 1; r < 32; r++) {
            Check.due("get of " + r, x.get(r), r);
        }
        Check.due("PC", x.get(32), BASE);
        for (int v : new int[] {1, -1, BASE + 1, 2147483647, -2147483647}) {
            Check.due("an odd PC", x.set(32, v), false);
            Check.due("PC stays", x.get(32), BASE);
        }
        for (int v : new int[] {0, 2, -2, 2147483646, -2147483648, 131072, BASE + 2}) {
            Check.due("an even PC", x.set(32, v), true);
            Check.due("PC", x.get(32), v);
        }
        Check.due("get(33)", x.get(33), 0);
        Check.due("step", x.step(), 0);
        for (int v : new int[] {0, 1, 9, -1, 2147483647}) {
            x.set(32, 0);
            x.set(33, 0);
            x.step();
            state(x, 1, 0);
            Check.due("the STATE is set", x.set(33, v), true);
            state(x, 0, 0);
        }
        for (int what : new int[] {-1, 9, 10, 2147483647, -2147483648}) {
            Check.due("state", x.state(what), -1);
        }
    }

    /** tell() and letter(): at memory's ends, and what stays when it is refused. */
    private static void tells() {
        ChainHouse x = new ChainHouse();
        Check.due("letter", x.letter(0), -1);
        for (int at : new int[] {-1, -2, 1, 3, 131071, 131072, 131074, 2147483646, -2147483648}) {
            Check.due("tell", x.tell(at), -1);
            Check.due("letter", x.letter(0), -1);
        }
        for (int at : new int[] {0, 2, 131070}) {
            Check.due("tell", Check.told(x, at), ".half 0x0");
        }
        x = machine("mul a0, a1, a2\nnop");
        Check.due("tell", Check.told(x, BASE), "mul a0, a1, a2");
        for (int at : new int[] {BASE + 1, -2, 131072}) {
            Check.due("tell", x.tell(at), -1);
            Check.due("OUT stays", x.letter(0), 'm');
            Check.due("OUT stays", x.letter(13), '2');
            Check.due("OUT's end", x.letter(14), -1);
        }
        Check.due("its upper half", Check.told(x, BASE + 2), "c.addi t0, 17");
        Check.due("a shorter one", Check.told(x, BASE + 4), "c.nop");
        Check.due("behind it", x.letter(5), -1);
        for (int k : new int[] {-1, 6, 2147483647, -2147483648}) {
            Check.due("letter", x.letter(k), -1);
        }
        // the greatest texts
        x = machine(".option norvc\nbgeu s10, s11, f\n.zero 400\nf: nop");
        Check.due("tell", Check.told(x, BASE), "bgeu s10, s11, 0x10194");
        // a long word that goes beyond memory
        for (int low : new int[] {0x7003, 0x0063, 0x0037, 0x006f, 0x0013}) {
            x = moved("nop\n.data\n.zero 14\n.half " + low, 6, 131056);
            Check.due("tell", x.tell(131070) > 0, true);
            String[] want = {".word 0x7003", "beq zero, zero, 0x1fffe", "lui zero, 0x0", "jal zero, 0x1fffe", "addi zero, zero, 0"};
            int k = low == 0x7003 ? 0 : low == 0x63 ? 1 : low == 0x37 ? 2 : low == 0x6f ? 3 : 4;
            Check.due("tell", Check.told(x, 131070), want[k]);
        }
        // targets that wrap
        x = moved("nop\n.data\n.word 0xffdff06f, 0x8000006f, 0x80000063", 6, 0);
        Check.due("tell", Check.told(x, 0), "jal zero, 0xfffffffc");
        Check.due("tell", Check.told(x, 4), "jal zero, 0xfff00004");
        Check.due("tell", Check.told(x, 8), "beq zero, zero, 0xfffff008");
    }
}
