/** Promises 19 to 29, and section 6: steps, states, runs, what is taken back, what is set and told. */
public final class MachineTest {
    private static final String START = ".globl _start\n_start: ";
    private static final int BASE = 65536;

    public static void main(String[] args) {
        arithmetic();
        comparisons();
        moves();
        jumps();
        memory();
        fetches();
        services();
        ends();
        runs();
        halts();
        backs();
        backOfAll();
        sets();
        inputs();
        longRuns();
        shorts();
        Check.end();
    }

    private static ChainHouse machine(String text) {
        ChainHouse x = Check.good(START + text);
        Check.linkAndLoad(x, 1, true);
        return x;
    }

    private static void state(ChainHouse x, int state, int culprit) {
        Check.due("the STATE", x.state(0), state);
        Check.due("the CULPRIT", x.state(1), culprit);
    }

    /** a2 of an instruction with a0 and a1. */
    private static void result(String instruction, int a0, int a1, int want) {
        ChainHouse x = machine(instruction + "\nnop");
        x.set(10, a0);
        x.set(11, a1);
        Check.due("step of " + instruction, x.step(), 0);
        Check.due(instruction + " of " + a0 + " and " + a1, x.get(12), want);
    }

    private static void arithmetic() {
        int min = 0x80000000;
        int max = 0x7fffffff;
        result("add a2, a0, a1", max, 1, min);
        result("sub a2, a0, a1", min, 1, max);
        result("sll a2, a0, a1", 3, 33, 6);
        result("srl a2, a0, a1", min, 31, 1);
        result("sra a2, a0, a1", min, 63, -1);
        result("xor a2, a0, a1", 12, 10, 6);
        result("or a2, a0, a1", 12, 10, 14);
        result("and a2, a0, a1", 12, 10, 8);
        result("mul a2, a0, a1", 0x10001, 0x10001, 0x20001);
        result("mulh a2, a0, a1", -1, -1, 0);
        result("mulh a2, a0, a1", min, min, 0x40000000);
        result("mulh a2, a0, a1", -1, 1, -1);
        result("mulhu a2, a0, a1", -1, -1, -2);
        result("mulhsu a2, a0, a1", -1, -1, -1);
        result("mulhsu a2, a0, a1", min, -1, min);
        result("mulhsu a2, a0, a1", 1, -1, 0);
        result("div a2, a0, a1", -7, 2, -3);
        result("div a2, a0, a1", 7, 0, -1);
        result("div a2, a0, a1", min, -1, min);
        result("rem a2, a0, a1", -7, 2, -1);
        result("rem a2, a0, a1", 7, -2, 1);
        result("rem a2, a0, a1", -7, 0, -7);
        result("rem a2, a0, a1", min, -1, 0);
        result("divu a2, a0, a1", -1, 2, max);
        result("divu a2, a0, a1", -1, 0, -1);
        result("remu a2, a0, a1", -1, 10, 5);
        result("remu a2, a0, a1", -5, 0, -5);
        result("addi a2, a0, -2048", 1, 0, -2047);
        result("xori a2, a0, -1", 5, 0, -6);
        result("ori a2, a0, -16", 5, 0, -11);
        result("andi a2, a0, -4", 7, 0, 4);
        result("slli a2, a0, 31", 3, 0, min);
        result("srli a2, a0, 31", -1, 0, 1);
        result("srai a2, a0, 4", -256, 0, -16);
        result("fence", 1, 2, 0);
    }

    private static void comparisons() {
        result("slt a2, a0, a1", -1, 0, 1);
        result("slt a2, a0, a1", 0, 0, 0);
        result("sltu a2, a0, a1", -1, 0, 0);
        result("sltu a2, a0, a1", 0, -1, 1);
        result("slti a2, a0, -1", -2, 0, 1);
        result("slti a2, a0, -1", 0, 0, 0);
        result("sltiu a2, a0, -1", 0, 0, 1);
        result("sltiu a2, a0, -1", -1, 0, 0);
        String[] branches = {"beq", "bne", "blt", "bge", "bltu", "bgeu"};
        int[][] pairs = {{5, 5}, {-1, 1}, {1, -1}};
        boolean[][] jumps = {{true, false, false}, {false, true, true}, {false, true, false}, {true, false, true}, {false, false, true}, {true, true, false}};
        for (int b = 0; b < 6; b++) {
            for (int p = 0; p < 3; p++) {
                ChainHouse x = machine(branches[b] + " a0, a1, f\n.option norvc\nnop\nf: nop");
                x.set(10, pairs[p][0]);
                x.set(11, pairs[p][1]);
                x.step();
                Check.due(branches[b], x.get(32), jumps[b][p] ? BASE + 8 : BASE + 4);
            }
        }
    }

    private static void moves() {
        ChainHouse x = machine("lui a0, 0x80000\nauipc a1, 0xfffff\nadd zero, a0, a1\nc.li a3, -3\nc.lui a4, 0xfffe0\nc.mv a5, a3\nc.add a5, a3");
        Check.due("run", x.run(7), 7);
        Check.due("lui", x.get(10), 0x80000000);
        Check.due("auipc", x.get(11), BASE + 4 - 4096);
        Check.due("register 0", x.get(0), 0);
        Check.due("c.li", x.get(13), -3);
        Check.due("c.lui", x.get(14), -131072);
        Check.due("c.add", x.get(15), -6);
        Check.due("PC", x.get(32), BASE + 12 + 8);
    }

    private static void jumps() {
        ChainHouse x = machine("jal a0, f\nnop\nf: c.jal g\nnop\ng: la a1, h\njalr a1, 1(a1)\nnop\nh: jr a1");
        Check.due("step", x.step(), 0);
        Check.due("link", x.get(10), BASE + 4);
        Check.due("PC", x.get(32), BASE + 6);
        x.step();
        Check.due("link of a short one", x.get(1), BASE + 8);
        Check.due("PC", x.get(32), BASE + 10);
        Check.due("run", x.run(1), 1);
        int at = x.get(32);
        Check.due("run", x.run(1), 1);
        Check.due("bit 0 is less, a is as it was", x.get(32), at + 4 + 2);
        Check.due("link", x.get(11), at + 4);
        Check.due("step", x.step(), 0);
        Check.due("PC", x.get(32), at + 4);
        // WILD: no mark, beyond memory; d has come
        for (int target : new int[] {BASE + 2, BASE + 16, 0, 131072, -2, BASE + 1}) {
            x = machine("jalr a0, 0(a1)\nnop\n.half 1, 1, 1, 1, 1");
            x.set(11, target);
            int to = target & ~1;
            if (to == BASE) {
                Check.due("step", x.step(), 0);
                continue;
            }
            Check.due("step", x.step(), 5);
            state(x, 5, to);
            Check.due("PC", x.get(32), to);
            Check.due("link", x.get(10), BASE + 4);
            Check.due("STEPS", x.state(3), 1);
            Check.due("UNITS", x.state(4), 1);
            Check.due("step", x.step(), 5);
            Check.due("STEPS", x.state(3), 1);
        }
    }

    private static void memory() {
        String text = "sw a0, 0(a1)\nsh a0, 0(a1)\nsb a0, 0(a1)\nlw a2, 0(a1)\nlh a2, 0(a1)\nlhu a2, 0(a1)\nlb a2, 0(a1)\nlbu a2, 0(a1)\n.option rvc\n.data\n.word 0x11223344, 0x8899aabb\n.rodata\n.word 0xfedcba98\n.bss\n.zero 3";
        int data = BASE + 48;
        int[][] stores = {{0, 4}, {1, 2}, {2, 1}};
        for (int[] s : stores) {
            ChainHouse x = machine(".option norvc\n" + text);
            x.set(32, BASE + 4 * s[0]);
            x.set(10, 0xa1b2c3d4);
            x.set(11, data + 4);
            Check.due("store", x.step(), 0);
            int[] was = {0xbb, 0xaa, 0x99, 0x88};
            int[] is = {0xd4, 0xc3, 0xb2, 0xa1};
            for (int k = 0; k < 4; k++) {
                Check.due("byte " + k, x.peek(data + 4 + k), k < s[1] ? is[k] : was[k]);
            }
            // alignment and rights
            for (int at : new int[] {data + 1, data + 2, data + 7, data + 8, data + 10, data + 11, BASE, BASE + 32, data - 16, 0, -4, 131072}) {
                boolean inData = at >= data && at + s[1] <= data + 11;
                boolean good = inData && at % s[1] == 0;
                x.load();
                x.set(32, BASE + 4 * s[0]);
                x.set(11, at);
                Check.due("store of " + s[1] + " at " + at, x.step(), good ? 0 : 4);
                state(x, good ? 0 : 4, good ? 0 : at);
                Check.due("PC", x.get(32), BASE + 4 * s[0] + (good ? 4 : 0));
                Check.due("STEPS", x.state(3), good ? 1 : 0);
            }
        }
        int[][] loads = {{3, 4, 0x8899aabb}, {4, 2, 0xffffaabb}, {5, 2, 0xaabb}, {6, 1, 0xffffffbb}, {7, 1, 0xbb}};
        for (int[] l : loads) {
            ChainHouse x = machine(".option norvc\n" + text);
            x.set(32, BASE + 4 * l[0]);
            x.set(11, data + 4);
            Check.due("load", x.step(), 0);
            Check.due("loaded", x.get(12), l[2]);
            for (int at : new int[] {data + 1, data + 2, data + 10, data + 11, BASE, BASE + 32, data - 16, data - 13, data - 12, -1, 131071}) {
                boolean inside = at >= BASE && at + l[1] <= BASE + 32 || at >= data - 16 && at + l[1] <= data - 12 || at >= data && at + l[1] <= data + 11;
                boolean good = inside && at % l[1] == 0;
                x.load();
                x.set(32, BASE + 4 * l[0]);
                x.set(11, at);
                Check.due("load of " + l[1] + " at " + at, x.step(), good ? 0 : 3);
                state(x, good ? 0 : 3, good ? 0 : at);
            }
        }
    }

    private static void fetches() {
        ChainHouse x = new ChainHouse();
        Check.due("step of a new machine", x.step(), 1);
        state(x, 1, 0);
        x = machine("nop\n.half 0x13\n.rodata\n.word 0");
        x.set(32, BASE + 2);
        Check.due("the upper half is not there", x.step(), 1);
        state(x, 1, BASE + 4);
        x.set(33, 5);
        state(x, 0, 0);
        for (int at : new int[] {BASE + 4, BASE + 16, 0, 131070, 131072, -2, 0x80000000}) {
            x.set(32, at);
            x.set(33, 0);
            Check.due("step", x.step(), 1);
            state(x, 1, at);
            Check.due("PC stays", x.get(32), at);
        }
        x = machine("nop\n.half 0\n.word 0x7f");
        x.step();
        Check.due("an illegal short one", x.step(), 2);
        state(x, 2, BASE + 2);
        x.set(32, BASE + 4);
        Check.due("an end stays", x.step(), 2);
        x.set(33, 0);
        Check.due("an illegal long one", x.step(), 2);
        state(x, 2, BASE + 4);
        Check.due("STEPS", x.state(3), 1);
    }

    private static void services() {
        ChainHouse x = machine("ecall\necall\necall\necall\nli a7, 3\necall");
        x.set(17, 1);
        x.set(10, 0x1ff);
        Check.due("PUT", x.step(), 0);
        Check.due("how many", x.get(10), 1);
        Check.due("OUTPUT", x.output(0), 255);
        Check.due("OUTPUT", x.output(1), -1);
        Check.due("OUTPUT", x.output(-1), -1);
        x.step();
        Check.due("how many", x.get(10), 2);
        Check.due("OUTPUT", x.output(1), 1);
        Check.due("state(5)", x.state(5), 2);
        x.set(17, 2);
        x.input(1, 0x8000000000000000L);
        x.step();
        Check.due("GET", x.get(10), 128);
        Check.due("state(6)", x.state(6), 0);
        x.step();
        Check.due("GET of nothing", x.get(10), -1);
        Check.due("run", x.run(2), 2);
        Check.due("CLOCK", x.get(10), 5);
        x = machine("ecall");
        x.set(17, 10);
        x.set(10, -77);
        Check.due("END", x.step(), 8);
        state(x, 8, BASE);
        Check.due("VALUE", x.state(2), -77);
        Check.due("PC stays", x.get(32), BASE);
        Check.due("STEPS", x.state(3), 1);
        for (int service : new int[] {0, 4, 9, 11, -1}) {
            x = machine("ecall");
            x.set(17, service);
            Check.due("no such SERVICE", x.step(), 7);
            state(x, 7, BASE);
            Check.due("STEPS", x.state(3), 1);
            Check.due("VALUE", x.state(2), 0);
        }
        // no room in OUTPUT
        x = machine("li a7, 1\nf: li a0, 7\necall\nj f");
        Check.due("run", x.run(2000), 2000);
        Check.due("run", x.run(2000), 2000);
        Check.due("run", x.run(2000), 2000);
        Check.due("OUTPUT", x.state(5), 2000);
        Check.due("OUTPUT", x.output(1999), 7);
        Check.due("OUTPUT", x.output(2000), -1);
        x.run(3);
        Check.due("no room", x.get(10), -1);
    }

    private static void ends() {
        for (String end : new String[] {"ebreak", "c.ebreak"}) {
            ChainHouse x = machine(end + "\nnop");
            Check.due("step", x.step(), 6);
            state(x, 6, BASE);
            Check.due("STEPS", x.state(3), 1);
            Check.due("UNITS", x.state(4), 1);
            Check.due("kept", x.state(7), 1);
            Check.due("PC stays", x.get(32), BASE);
            Check.due("run", x.run(5), 0);
            Check.due("back", x.back(1), 1);
            state(x, 0, 0);
            Check.due("set STATE", x.set(33, 9), true);
            state(x, 0, 0);
        }
    }

    private static void runs() {
        ChainHouse x = machine("call f\nnop\nnop\nf: .option norelax\ncall g\ng: nop\nnop\nebreak");
        Check.due("run(-1)", x.run(-1), -1);
        Check.due("run(2001)", x.run(2001), -1);
        Check.due("run(0)", x.run(0), 0);
        Check.due("STEPS", x.state(3), 0);
        Check.due("run(1)", x.run(1), 1);
        Check.due("STEPS", x.state(3), 1);
        // a call of two words is one UNIT: its second word is not marked
        Check.due("run(1)", x.run(1), 1);
        Check.due("STEPS", x.state(3), 3);
        Check.due("UNITS", x.state(4), 2);
        Check.due("run(2000)", x.run(2000), 3);
        state(x, 6, x.get(32));
        Check.due("UNITS", x.state(4), 5);
        x = machine("call f\nnop\nf: .option norelax\ncall g\ng: nop\nebreak");
        x.step();
        x.step();
        Check.due("run(0) ends the UNIT", x.run(0), 0);
        Check.due("STEPS", x.state(3), 3);
        Check.due("UNITS", x.state(4), 2);
        // what fails is no UNIT, and is not tried above n
        x = machine("nop\n.half 0");
        Check.due("run(1)", x.run(1), 1);
        state(x, 2, BASE + 2);
        Check.due("run", x.run(10), 0);
        ChainHouse y = new ChainHouse();
        Check.due("run(0) of a new machine, all are UNITS", y.run(0), 0);
        state(y, 0, 0);
        Check.due("run(1) of a new machine", y.run(1), 0);
        state(y, 1, 0);
    }

    private static void halts() {
        ChainHouse x = machine("nop\nnop\nnop\nj _start");
        Check.due("halt at an odd address", x.halt(BASE + 1, true), false);
        Check.due("halt below 0", x.halt(-2, true), false);
        Check.due("no HALT yet", x.halt(BASE, false), false);
        Check.due("halt", x.halt(BASE + 2, true), true);
        Check.due("it is so already", x.halt(BASE + 2, true), false);
        Check.due("halts", x.state(8), 1);
        Check.due("run", x.run(10), 1);
        state(x, 9, BASE + 2);
        Check.due("run(0)", x.run(0), 0);
        state(x, 9, BASE + 2);
        Check.due("the first step is not asked", x.run(10), 4);
        state(x, 9, BASE + 2);
        Check.due("step", x.step(), 0);
        state(x, 0, 0);
        Check.due("run up to n at a HALT: this is asked first", x.run(3), 3);
        state(x, 9, BASE + 2);
        x.back(1);
        Check.due("run(1)", x.run(1), 1);
        state(x, 9, BASE + 2);
        // a failed step from STATE 9
        x.set(32, BASE + 8);
        Check.due("step", x.step(), 1);
        Check.due("no HALT any more", x.halt(BASE + 2, false), true);
        Check.due("halts", x.state(8), 0);
        for (int k = 0; k < 8; k++) {
            Check.due("halt", x.halt(2147483646 - 2 * k, true), true);
        }
        Check.due("a ninth one", x.halt(0, true), false);
        Check.due("one less", x.halt(2147483646 - 4, false), true);
        Check.due("another one", x.halt(0, true), true);
        Check.due("halts", x.state(8), 8);
        // an end at a HALT stays an end
        x = machine("nop\nebreak");
        x.halt(BASE + 2, true);
        x.run(1);
        Check.due("run", x.run(5), 1);
        state(x, 6, BASE + 2);
    }

    private static void backs() {
        ChainHouse x = machine("li a0, 65\nli a7, 1\necall\nsw a0, 0(gp)\nli a7, 2\necall\nlw a1, 0(gp)\nli a7, 10\necall\n.data\n.word 0x01020304");
        x.set(3, BASE + 32);
        x.input(2, 0x4200000000000000L);
        Check.due("back(1) of nothing", x.back(1), 0);
        int[] pcs = new int[10];
        int[] a0 = new int[10];
        for (int k = 0; k < 10; k++) {
            pcs[k] = x.get(32);
            a0[k] = x.get(10);
            Check.due("step", x.step(), k < 8 ? 0 : 8);
        }
        Check.due("kept", x.state(7), 9);
        Check.due("VALUE", x.state(2), 0x42);
        Check.due("peek", x.peek(BASE + 32), 1);
        Check.due("back(0)", x.back(0), 0);
        Check.due("back(-5)", x.back(-5), 0);
        for (int k = 8; k >= 0; k--) {
            Check.due("back", x.back(1), 1);
            Check.due("PC", x.get(32), pcs[k]);
            Check.due("a0", x.get(10), a0[k]);
            Check.due("OUTPUT", x.state(5), k > 2 ? 1 : 0);
            Check.due("INPUT", x.state(6), k > 5 ? 1 : 2);
            Check.due("memory", x.peek(BASE + 32), k > 3 ? 1 : 4);
            Check.due("STEPS", x.state(3), k);
            Check.due("UNITS", x.state(4), k);
            Check.due("kept", x.state(7), k);
            Check.due("VALUE", x.state(2), 0);
            state(x, 0, 0);
        }
        Check.due("output", x.output(0), -1);
        Check.due("run", x.run(100), 9);
        Check.due("back(100)", x.back(100), 9);
        // what failed goes with the step ahead of it
        x = machine("nop\nnop\n.half 0");
        x.run(5);
        state(x, 2, BASE + 4);
        Check.due("back", x.back(1), 1);
        state(x, 0, 0);
        Check.due("PC", x.get(32), BASE + 2);
        // STATE 9 comes back
        x.load();
        x.halt(BASE + 2, true);
        x.run(5);
        state(x, 9, BASE + 2);
        x.step();
        state(x, 0, 0);
        x.back(1);
        state(x, 9, BASE + 2);
        x.back(1);
        state(x, 0, 0);
        // WILD
        x = machine("jr a0");
        x.step();
        state(x, 5, 0);
        x.back(1);
        state(x, 0, 0);
        Check.due("PC", x.get(32), BASE);
    }

    private static void backOfAll() {
        ChainHouse x = machine("f: addi a0, a0, 1\nj f");
        x.run(250);
        Check.due("kept", x.state(7), 100);
        Check.due("back(30)", x.back(30), 30);
        Check.due("kept", x.state(7), 70);
        Check.due("a0", x.get(10), 110);
        x.run(20);
        Check.due("kept", x.state(7), 90);
        Check.due("back(1000)", x.back(1000), 90);
        Check.due("STEPS", x.state(3), 150);
        Check.due("a0", x.get(10), 75);
        Check.due("back(1)", x.back(1), 0);
        // what forgets the kept steps, and what doesn't
        x.run(5);
        x.run(-1);
        x.set(0, 1);
        x.set(32, 1);
        x.set(34, 1);
        x.input(0, 0);
        x.halt(1, true);
        x.tell(BASE);
        x.peek(BASE);
        Check.due("kept", x.state(7), 5);
        x.set(5, 5);
        Check.due("set", x.state(7), 0);
        x.run(5);
        x.set(33, 5);
        Check.due("set STATE", x.state(7), 0);
        x.run(5);
        x.input(1, 5);
        Check.due("input", x.state(7), 0);
        x.run(5);
        x.halt(0, true);
        Check.due("halt", x.state(7), 0);
        x.run(5);
        x.halt(0, false);
        Check.due("halt", x.state(7), 0);
        x.run(5);
        x.spoil(-1, 0, 0);
        x.load();
        Check.due("load with a fault", x.state(7), 5);
        x.spoil(-1, 0, 127);
        x.load();
        Check.due("load", x.state(7), 0);
    }

    private static void sets() {
        ChainHouse x = new ChainHouse();
        for (int r : new int[] {0, -1, 34, 2147483647, -2147483648}) {
            Check.due("set of register " + r, x.set(r, 2), false);
            Check.due("get of register " + r, x.get(r), 0);
        }
        for (int r = 1; r <= 31; r++) {
            Check.due("set of register " + r, x.set(r, -r), true);
            Check.due("get of register " + r, x.get(r), -r);
        }
        Check.due("get of register 33", x.get(33), 0);
        Check.due("an odd PC", x.set(32, -1), false);
        Check.due("PC", x.set(32, -2), true);
        Check.due("PC", x.get(32), -2);
        x.step();
        state(x, 1, -2);
        Check.due("STATE", x.set(33, 7), true);
        state(x, 0, 0);
    }

    private static void inputs() {
        ChainHouse x = new ChainHouse();
        Check.due("input 0", x.input(0, 1), false);
        Check.due("input 9", x.input(9, 1), false);
        Check.due("input -1", x.input(-1, 1), false);
        for (int k = 0; k < 125; k++) {
            Check.due("input 8", x.input(8, k), true);
        }
        Check.due("state(6)", x.state(6), 1000);
        Check.due("no room", x.input(1, 1), false);
        x = machine("li a7, 2\necall\necall\necall\necall");
        x.input(3, 0xfe01800000000000L);
        x.input(1, 0x0700000000000000L);
        int[] want = {254, 1, 128, 7};
        x.step();
        for (int k = 0; k < 4; k++) {
            x.step();
            Check.due("GET", x.get(10), want[k]);
            Check.due("state(6)", x.state(6), 3 - k);
        }
        for (int k = 0; k < 124; k++) {
            x.input(8, k);
        }
        Check.due("that which was taken counts, too", x.input(5, 1), false);
        Check.due("input", x.input(4, 1), true);
        Check.due("state(6)", x.state(6), 996);
    }

    private static void longRuns() {
        // ten words that are no starts, in a circle with one that is
        ChainHouse x = machine("j f\n" + "f: .half 1,1,1,1,1,1,1,1,1,1,1,1,1\nj _start");
        Check.due("the jump's target is no mark", x.run(1), 1);
        state(x, 5, BASE + 4);
        x = machine("nop\n.half 1" + ",1".repeat(28) + "\nj _start\n");
        Check.due("run(2000): 20,000 steps", x.run(2000), 2 * 645 + 1);
        Check.due("STEPS", x.state(3), 20000);
        Check.due("run(10)", x.run(10), 10);
        x.load();
        x.halt(BASE + 4 + 2 * 4, true);
        Check.due("run", x.run(2000), 1);
        state(x, 9, BASE + 12);
    }

    private static final String[] SHORTS = {"c.addi4spn a0, sp, 16", "addi a0, sp, 16", "c.lw a0, 4(a1)", "lw a0, 4(a1)", "c.sw a0, 4(a1)", "sw a0, 4(a1)",
        "c.nop", "addi zero, zero, 0", "c.addi a0, -3", "addi a0, a0, -3", "c.jal f", "jal ra, f", "c.li a0, -3", "addi a0, zero, -3",
        "c.addi16sp sp, 32", "addi sp, sp, 32", "c.lui a0, 0xfffe1", "lui a0, 0xfffe1", "c.srli a0, 3", "srli a0, a0, 3", "c.srai a0, 3", "srai a0, a0, 3",
        "c.andi a0, -2", "andi a0, a0, -2", "c.sub a0, a1", "sub a0, a0, a1", "c.xor a0, a1", "xor a0, a0, a1", "c.or a0, a1", "or a0, a0, a1",
        "c.and a0, a1", "and a0, a0, a1", "c.j f", "jal zero, f", "c.beqz a0, f", "beq a0, zero, f", "c.bnez a0, f", "bne a0, zero, f",
        "c.slli a0, 5", "slli a0, a0, 5", "c.lwsp a0, 4(sp)", "lw a0, 4(sp)", "c.jr a2", "jalr zero, 0(a2)", "c.mv a0, a1", "add a0, zero, a1",
        "c.ebreak", "ebreak", "c.jalr a2", "jalr ra, 0(a2)", "c.add a0, a1", "add a0, a0, a1", "c.swsp a0, 4(sp)", "sw a0, 4(sp)"};

    /** Each short word works as the long one for which it stands, but for how many bytes it has. */
    private static void shorts() {
        for (int k = 0; k < SHORTS.length; k += 2) {
            for (int a0 : new int[] {0, -77, 0x7ffffff0}) {
                ChainHouse x = shortMachine(SHORTS[k], a0);
                ChainHouse y = shortMachine(".option norvc\n" + SHORTS[k + 1] + "\n.option rvc", a0);
                Check.due("step of " + SHORTS[k], x.step(), y.step());
                for (int r = 0; r < 32; r++) {
                    boolean link = r == 1 && y.get(1) == BASE + 4;
                    Check.due(SHORTS[k] + ", register " + r, x.get(r), link ? BASE + 2 : y.get(r));
                }
                Check.due(SHORTS[k] + ", PC", x.get(32), y.get(32) == BASE + 4 ? BASE + 2 : y.get(32));
                for (int at = BASE + 16; at < BASE + 32; at++) {
                    Check.due(SHORTS[k] + ", memory", x.peek(at), y.peek(at));
                }
            }
        }
    }

    private static ChainHouse shortMachine(String instruction, int a0) {
        ChainHouse x = machine(instruction + "\n.align 3\nf: nop\n.data\n.word 1, -2, 3, 4");
        x.set(10, a0);
        x.set(11, BASE + 16);
        x.set(2, BASE + 20);
        x.set(12, BASE + 8);
        return x;
    }
}
