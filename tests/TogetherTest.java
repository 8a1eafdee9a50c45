import java.util.ArrayList;
import java.util.List;
import java.util.Random;

/** All promises together: random runs of calls, each call's answer beside that of a plain model of the whole face (HouseModel). */
public final class TogetherTest {
    private static final int CALLS = 512;
    private static final int[] INTS = {0, 1, -1, 2, 3, 4, 5, 6, 7, 8, 9, 10, 16, 17, 20, 21, 31, 32, 33, 34, 52, 63, 64, 65, 100, 2000, 2001, 4096, 8192, 65536, 65538, 65540, 65552,
        131056, 131070, 131071, 131072, 2147483647, -2147483648};
    private static final long[] NAMES = {0x5f73746172740000L, 0x6600000000000000L, 0x6400000000000000L, 0x6300000000000000L, 0x7700000000000000L, 0x5f67700000000000L, 0x5f656e6400000000L,
        0x5f65746578740000L, 0x6b00000000000000L, 0x6700000000000000L, 0L, 0x0000000000000066L, 0x0064000000000000L};

    /** Lines of a unit that begins at _start. */
    private static final String[] MAIN = {"la a0, d", "lw a1, d", "sw a1, d, t0", "call f", "call g", "li a7, 1\necall", "li a7, 2\necall", "li a7, 3\necall", "li a7, 10\necall", "li a7, 5\necall", "ebreak", "jal t0, f",
        "lui a2, %hi(d)\nlw a3, %lo(d)(a2)", "lui a2, %hi(d)\nsw a0, %lo(d)(a2)", ".align 3", ".align 4", "addi a0, a0, 1", "mul a1, a1, a0", "bnez a1, _start", "1: addi a4, a4, 1\nblt a4, a0, 1b", "la a0, c", "la a0, w",
        "sb a0, c + 1, t1", "lb a5, c + 1", ".option norvc\nsub a0, a0, a1\n.option rvc", "c.nop", "lw a0, 2(a0)", "jr ra", "jalr a0", ".half 0", "lw a0, k", "lui a1, %hi(_gp)", "div a0, a0, a4", "j .", "beq a0, a1, 2f\nnop\n2:"};
    /** By names: lines that DEFINE it, behind a unit's instructions. */
    private static final String[][] NAMED = {
        {".globl f\n.text\nf: addi a0, a0, 2\nret", ".globl f\n.text\nf: ret", ".weak f\n.text\nf: jr ra"},
        {".data\n.globl d\nd: .word 1, 2", ".data\n.globl d\nd: .word f, d, . - d", ".bss\n.globl d\n.align 4\nd: .zero 24", ".comm d, 4, 4", ".weak d", ".rodata\n.globl d\nd: .word 7"},
        {".text\n.globl g\ng: tail f", ".text\n.globl g\ng: nop\nret", ".weak g\n.equ g, 65536"},
        {".comm c, 8, 8", ".comm c, 40, 16", ".globl c\n.bss\n.zero 1\nc: .zero 7"},
        {".weak w", ".weak w\n.weak w"},
        {".globl k\n.equ k, 5", ".globl k\n.equ k, -4"},
        {".rodata\n.asciz \"ab\"", ".rodata\n.byte 1, g - f", ".data\n.word k, _end, _etext", ".bss\n.zero 9", ".data\n.byte 3"}};
    private static final String[] WRONG = {"foo", "add a0", "li a0, (", "'", "\"", "%", "j 2f", "j 1b", "# \u0001", "addi a0, a0, 2048", ".align 7", "f: f:", ".option pop", "c.addi a0, 0", ".data\nnop", ".zero 4097", "1", "lw a0, 4",
        ".equ d, d", "la a0, d - f", ".half 65536", "a0:", "12345678901234567", "x12345678901234567", "4294967296", "add x32, a0, a0", ".comm c, 1, 3", "lui a0, a0"};

    private final Random r;
    private final ChainHouse x = new ChainHouse();
    private final HouseModel model = new HouseModel();
    private final String seed;
    private final int[] seen;
    private int calls;
    /** Alterations that may be taken back: file, byte, what it was. */
    private final List<int[]> undo = new ArrayList<>();

    private TogetherTest(int seed, int[] seen) {
        // seeds that follow one another begin nearly alike
        r = new Random(seed * 0x9e3779b97f4a7c15L);
        this.seed = "seed " + seed;
        this.seen = seen;
    }

    public static void main(String[] args) {
        int[] seen = new int[SEEN.length];
        for (int seed = 0; seed < 2500; seed++) {
            new TogetherTest(seed, seen).run();
        }
        for (int k = 0; k < SEEN.length; k++) {
            Check.due(SEEN[k] + " (" + seen[k] + ")", seen[k] > 200, true);
        }
        Check.end();
    }

    private static final String[] SEEN = {"assembled", "not assembled", "checked", "a check with a FAULT", "linked", "a LINK FAULT", "loaded", "a load with a FAULT", "runs to a HALT", "runs to an END", "steps that were taken back",
        "linked behind a fault", "a fault behind a good link", "a FAULT of a load behind a good one"};

    private boolean linkWas;
    private boolean linkBad;
    private boolean loadWas;

    // ---- calls, each with the model's answer

    private boolean left() {
        return calls < CALLS;
    }

    private void due(String call, long got, long want) {
        calls++;
        Check.due(seed + ", call " + calls + ", " + call, got, want);
    }

    private int any() {
        return r.nextInt(8) == 0 ? r.nextInt() : INTS[r.nextInt(INTS.length)];
    }

    private int unit() {
        return r.nextInt(30) == 0 ? r.nextInt(9) - 2 : r.nextInt(5) == 0 ? r.nextInt(6) : r.nextInt(3);
    }

    private int file() {
        return r.nextInt(3) == 0 ? -1 : unit();
    }

    private void feed(byte[] bytes) {
        for (int from = 0; from < bytes.length && left(); from += 20) {
            int[] five = new int[5];
            for (int k = 0; k < 20; k++) {
                five[k / 4] |= (from + k < bytes.length ? bytes[from + k] & 255 : r.nextInt(256)) << 24 - 8 * (k % 4);
            }
            x.feed(five[0], five[1], five[2], five[3], five[4]);
            model.feed(five);
            calls++;
            if (r.nextInt(40) == 0 && left()) {
                int n = any();
                if (n < 0 || n > 20) {
                    due("end", x.end(n), model.end(n));
                }
            }
            if (left()) {
                int n = Math.min(20, bytes.length - from);
                due("end", x.end(n), model.end(n));
            }
        }
    }

    private void feed(String text) {
        feed(text.getBytes(java.nio.charset.StandardCharsets.ISO_8859_1));
    }

    private String text(boolean main) {
        StringBuilder s = new StringBuilder();
        s.append(main ? ".globl _start\n_start:" : "");
        for (int k = r.nextInt(5); k > 0; k--) {
            s.append(MAIN[r.nextInt(MAIN.length)]).append('\n');
        }
        s.append(main ? "li a7, 1\necall\nj _start\n" : "");
        for (String[] lines : NAMED) {
            if (r.nextInt(10) < (main ? 8 : 2)) {
                s.append(lines[r.nextInt(3) > 0 ? 0 : r.nextInt(lines.length)]).append('\n');
            }
        }
        if (r.nextInt(9) == 0) {
            s.append(WRONG[r.nextInt(WRONG.length)]);
        }
        if (r.nextInt(25) == 0 && s.length() > 0) {
            s.setCharAt(r.nextInt(s.length()), (char) r.nextInt(256));
        }
        return s.toString();
    }

    private void assemble() {
        if (r.nextInt(3) > 0 && left()) {
            // what lay in the TEXT becomes a FILE that is of no use here
            due("take", Check.take(x, 5), model.take(5));
        }
        int u = unit();
        feed(text(u == 0 || r.nextInt(6) == 0));
        if (left()) {
            int want = model.assemble(u);
            seen[want > 0 ? 0 : 1]++;
            due("assemble", Check.assemble(x, u), want);
            undo.clear();
        }
    }

    private void take() {
        if (r.nextBoolean()) {
            byte[] some = new byte[r.nextInt(30)];
            r.nextBytes(some);
            feed(some);
        }
        if (left()) {
            int u = unit();
            due("take", Check.take(x, u), model.take(u));
            undo.clear();
        }
    }

    private void spoil(int k, int i, int b) {
        if (left()) {
            int was = model.spoil(k, i, b);
            due("spoil", x.spoil(k, i, b), was);
            if (was >= 0) {
                undo.add(new int[] {k, i, was});
            }
        }
    }

    /** A number of a file, or 0. */
    private int number(int k, int at, int width) {
        int v = 0;
        for (int j = width - 1; j >= 0; j--) {
            v = v << 8 | Math.max(0, model.byteAt(k, at + j));
        }
        return v;
    }

    private void alter() {
        int k = file();
        int size = model.size(k);
        if (size < 52 || r.nextInt(12) == 0) {
            spoil(k, any(), any());
            return;
        }
        int at;
        int table = k < 0 ? number(k, 28, 4) : number(k, 32, 4);
        int row = k < 0 ? 32 : 40;
        int rows = k < 0 ? number(k, 44, 2) : number(k, 48, 2);
        switch (r.nextInt(6)) {
            case 0: at = r.nextInt(52); break;
            case 1: at = table + r.nextInt(1 + (row * rows & 1023)); break;
            case 2: at = size - 1 - r.nextInt(Math.min(size, 40)); break;
            default: {
                // a part's bytes
                int e = table + row * r.nextInt(1 + (rows & 15));
                at = number(k, e + (k < 0 ? 4 : 16), 4) + r.nextInt(1 + (number(k, e + (k < 0 ? 16 : 20), 4) & 255));
                break;
            }
        }
        int was = model.byteAt(k, at);
        spoil(k, at, r.nextInt(3) == 0 ? r.nextInt() : was + (r.nextBoolean() ? 1 : -1) * (1 << r.nextInt(4)));
    }

    private void mend() {
        while (!undo.isEmpty() && left()) {
            int[] u = undo.remove(undo.size() - 1);
            due("spoil back", x.spoil(u[0], u[1], u[2]), model.spoil(u[0], u[1], u[2]));
        }
    }

    private void extend() {
        int k = r.nextInt(5) == 0 ? any() : file();
        int n = any();
        long eight = r.nextLong();
        if (r.nextInt(3) > 0) {
            int c = r.nextInt(3) == 0 ? any() : model.size(k) - r.nextInt(3);
            due("cut", x.cut(k, c) ? 1 : 0, model.cut(k, c));
            undo.clear();
        }
        if (left()) {
            due("extend", x.extend(k, n, eight) ? 1 : 0, model.extend(k, n, eight));
        }
    }

    private void check() {
        int u = unit();
        int want = model.check(u);
        seen[want == 0 ? 2 : 3]++;
        due("check", Check.check(x, u), want);
    }

    private void link() {
        if (r.nextInt(4) > 0) {
            mend();
        }
        if (!left()) {
            return;
        }
        int set = r.nextInt(20) == 0 ? any() : r.nextInt(4) > 0 ? 1 + 2 * r.nextInt(4) : r.nextInt(16);
        for (int k = 0; k < 6 && set > 0 && r.nextInt(12) > 0; k++) {
            set = model.size(k) == 0 ? set & ~(1 << k) : set;
        }
        boolean shrinks = r.nextInt(4) > 0;
        int want = model.link(set, shrinks);
        seen[want > 0 ? 4 : 5]++;
        seen[11] += want > 0 && linkBad ? 1 : 0;
        seen[12] += want == Check.STATE && linkWas ? 1 : 0;
        linkBad = want == Check.STATE;
        linkWas = linkWas || want > 0;
        due("link(" + set + ")", Check.link(x, set, shrinks), want);
        undo.removeIf(u -> want > 0 && u[0] < 0);
        if (want > 0 && r.nextInt(4) > 0 && left()) {
            load();
        }
    }

    private void load() {
        int want = model.load();
        due("load", x.load(), want);
        if (want == 29 && r.nextInt(4) > 0) {
            // the right SUM, so that the altered image is loaded
            int at = model.place();
            long sum = model.rightSum();
            for (int k = 0; k < 4; k++) {
                spoil(-1, at + k, (int) (sum >> 8 * k));
            }
            if (left()) {
                want = model.load();
                due("load", x.load(), want);
            }
        }
        seen[want == 0 ? 6 : 7]++;
        seen[13] += want != 0 && loadWas ? 1 : 0;
        loadWas = loadWas || want == 0;
    }

    private int codeAddress() {
        return r.nextInt(10) == 0 ? any() : 65536 + 2 * r.nextInt(r.nextBoolean() ? 12 : 40);
    }

    private void machine() {
        if (model.machine.state != 0 && model.machine.state != 9 && r.nextInt(3) > 0) {
            due("set(33)", x.set(33, 0) ? 1 : 0, model.machine.set(33, 0) ? 1 : 0);
            if (r.nextBoolean() && left()) {
                int at = codeAddress();
                due("set(32, " + at + ")", x.set(32, at) ? 1 : 0, model.machine.set(32, at) ? 1 : 0);
            }
            return;
        }
        switch (r.nextInt(12)) {
            case 0: case 1: due("step", x.step(), model.step()); break;
            case 2: case 3: case 4: case 5: {
                int n = r.nextInt(6) == 0 ? any() : r.nextInt(3) == 0 ? 2000 : r.nextInt(9);
                int want = model.machine.run(n);
                seen[8] += model.machine.state == 9 ? 1 : 0;
                seen[9] += model.machine.state != 9 && model.machine.state != 0 ? 1 : 0;
                due("run(" + n + ")", x.run(n), want);
                break;
            }
            case 6: case 7: {
                int n = r.nextInt(4) == 0 ? any() : r.nextInt(12);
                int want = model.machine.back(n);
                seen[10] += want;
                due("back(" + n + ")", x.back(n), want);
                break;
            }
            case 8: case 9: {
                int[] some = {10, 17, 11, 32, 33, 1, 5};
                int which = r.nextInt(6) == 0 ? any() : some[r.nextInt(some.length)];
                int v = which == 32 ? codeAddress() : which == 17 ? new int[] {1, 2, 3, 10, 4}[r.nextInt(5)] : r.nextInt(3) == 0 ? codeAddress() : any();
                due("set(" + which + ", " + v + ")", x.set(which, v) ? 1 : 0, model.machine.set(which, v) ? 1 : 0);
                break;
            }
            case 10: {
                int at = codeAddress();
                boolean on = r.nextInt(3) > 0;
                due("halt(" + at + ")", x.halt(at, on) ? 1 : 0, model.machine.halt(at, on) ? 1 : 0);
                break;
            }
            default: {
                int n = r.nextInt(5) == 0 ? any() : 1 + r.nextInt(8);
                long eight = r.nextLong();
                due("input(" + n + ")", x.input(n, eight) ? 1 : 0, model.machine.input(n, eight) ? 1 : 0);
                break;
            }
        }
    }

    /** Some questions, which change nothing (tell() but OUT). */
    private void ask() {
        int w = r.nextInt(6) == 0 ? any() : r.nextInt(9);
        switch (r.nextInt(20)) {
            case 0: due("fault(" + w + ")", x.fault(w), model.fault(w)); break;
            case 1: due("fault(1)", x.fault(1), model.fault(1)); break;
            case 2: case 3: due("linked(" + w + ")", x.linked(w), model.linked(w)); break;
            case 4: due("place", x.place(), model.place()); break;
            case 5: case 6: case 7: askObject(); break;
            case 8: {
                long first = NAMES[r.nextInt(NAMES.length)];
                long second = r.nextInt(8) == 0 ? r.nextLong() : 0;
                boolean turned = r.nextInt(6) == 0;
                long a = turned ? second : first;
                long b = turned ? first : second;
                due("where(" + a + ", " + b + ")", where(a, b), model.where(a, b));
                break;
            }
            case 9: case 10: case 11: due("state(" + w + ")", x.state(w), model.machine.state(w)); break;
            case 12: {
                int n = r.nextInt(3) == 0 ? any() : new int[] {1, 5, 10, 11, 14, 32, 32, 3}[r.nextInt(8)];
                due("get(" + n + ")", x.get(n), model.machine.get(n));
                break;
            }
            case 13: {
                int at = r.nextInt(3) == 0 ? any() : 65536 + r.nextInt(160);
                due("peek(" + at + ")", x.peek(at), model.machine.peek(at));
                break;
            }
            case 14: {
                int k = r.nextInt(3) == 0 ? any() : model.machine.state(5) - 1 - r.nextInt(3);
                due("output(" + k + ")", x.output(k), model.machine.output(k));
                break;
            }
            case 15: {
                int at = r.nextInt(3) == 0 ? any() : 65536 + r.nextInt(160);
                due("rights(" + at + ")", x.rights(at), model.machine.rights(at));
                break;
            }
            case 16: {
                int at = r.nextInt(3) == 0 ? model.machine.get(32) : codeAddress();
                due("tell(" + at + ")", x.tell(at), model.tell(at));
                break;
            }
            case 17: due("letter(" + w + ")", x.letter(w), model.letter(w)); break;
            case 18: {
                int k = file();
                due("size(" + k + ")", x.size(k), model.size(k));
                break;
            }
            default: {
                int k = file();
                int at = r.nextInt(5) == 0 ? any() : r.nextInt(Math.max(1, model.size(k)));
                due("byteAt(" + k + ", " + at + ")", x.byteAt(k, at), model.byteAt(k, at));
                break;
            }
        }
    }

    private int where(long first, long second) {
        try {
            return x.where(first, second);
        } catch (java.util.NoSuchElementException e) {
            return Check.ELEMENT;
        }
    }

    private void askObject() {
        int list = r.nextInt(8) == 0 ? any() : r.nextInt(6);
        int k = r.nextInt(8) == 0 ? any() : r.nextInt(9);
        int what = r.nextInt(8) == 0 ? any() : r.nextInt(list == 2 ? 10 : 5);
        due("object(" + list + ", " + k + ", " + what + ")", x.object(list, k, what), model.object(list, k, what));
    }

    private void run() {
        int turn = 0;
        while (left()) {
            int which = turn < 4 ? new int[] {0, 10, 15, 20}[turn] : r.nextInt(model.machine.state(4) > 0 ? 50 : 30);
            turn++;
            if (which < 2) {
                assemble();
            } else if (which < 3) {
                take();
            } else if (which < 5) {
                alter();
            } else if (which < 7) {
                mend();
            } else if (which < 8) {
                if (r.nextInt(4) == 0) {
                    extend();
                }
            } else if (which < 10) {
                check();
            } else if (which < 14) {
                link();
            } else if (which < 17) {
                load();
            } else {
                machine();
            }
            for (int k = r.nextInt(5); k > 0 && left(); k--) {
                ask();
            }
        }
    }
}
