import java.util.ArrayList;
import java.util.HashMap;
import java.util.List;
import java.util.Map;
import java.util.Random;
import java.util.TreeSet;

/** Section 6: random programs and calls, beside a plain model that keeps a copy of all for each step. */
public final class StepsTest {
    private static final int BASE = 65536;
    private static final int[] REGISTERS = {5, 9, 10, 11, 12, 17};
    private static final String[] NAMES = {"t0", "s1", "a0", "a1", "a2", "a7"};

    /** An instruction of the program: what it is, its registers and number, how long it is, whether it is a START. */
    private static final class Op {
        String what;
        int d;
        int a;
        int b;
        int i;
        int size;
        boolean marked;
        int target;
    }

    /** All that a step may change. */
    private static final class State {
        int[] r = new int[33];
        int state;
        int culprit;
        int value;
        int steps;
        int units;
        int taken;
        int[] data = new int[16];
        List<Integer> output = new ArrayList<>();

        State copy() {
            State s = new State();
            s.r = r.clone();
            s.state = state;
            s.culprit = culprit;
            s.value = value;
            s.steps = steps;
            s.units = units;
            s.taken = taken;
            s.data = data.clone();
            s.output = new ArrayList<>(output);
            return s;
        }
    }

    private final Map<Integer, Op> ops = new HashMap<>();
    private final List<Integer> starts = new ArrayList<>();
    private State now = new State();
    private final List<State> kept = new ArrayList<>();
    private final TreeSet<Integer> halts = new TreeSet<>();
    private final List<Integer> input = new ArrayList<>();
    private int data;
    private int end;

    public static void main(String[] args) {
        int[] seen = new int[16];
        for (int seed = 0; seed < 6000; seed++) {
            new StepsTest().run(new Random(seed), seed, seen);
        }
        for (int k = 0; k < 10; k++) {
            Check.due("STATE " + k + " was seen", seen[k] > 5, true);
        }
        Check.due("many steps were taken back", seen[10] > 2000, true);
        Check.end();
    }

    private String text(Random r) {
        int n = 6 + r.nextInt(14);
        List<Op> list = new ArrayList<>();
        StringBuilder s = new StringBuilder(".option norvc\n.globl _start\n_start:");
        int at = BASE;
        for (int k = 0; k < n; k++) {
            Op o = new Op();
            o.d = r.nextInt(6);
            o.a = r.nextInt(6);
            o.b = r.nextInt(6);
            o.size = 4;
            o.marked = true;
            o.target = r.nextInt(n);
            s.append("l").append(k).append(": ");
            switch (r.nextInt(16)) {
                case 0: case 1: o.what = "addi"; o.i = r.nextInt(41) - 20; break;
                case 2: o.what = r.nextBoolean() ? "sub" : "mul"; break;
                case 3: o.what = "li"; o.d = 5; o.i = new int[] {1, 2, 3, 10, 1, 2, 3, 7}[r.nextInt(8)]; break;
                case 4: o.what = "sw"; o.a = 1; o.i = 4 * r.nextInt(5) - (r.nextInt(8) == 0 ? 1 : 0); break;
                case 5: o.what = "sb"; o.a = 1; o.i = r.nextInt(18) - 1; break;
                case 6: o.what = "lw"; o.a = 1; o.i = 4 * r.nextInt(5) - (r.nextInt(8) == 0 ? 2 : 0); break;
                case 7: o.what = "lbu"; o.a = r.nextInt(9) == 0 ? o.a : 1; o.i = r.nextInt(18) - 1; break;
                case 8: o.what = r.nextBoolean() ? "beq" : "bne"; break;
                case 9: o.what = "jal"; break;
                case 10: case 11: o.what = "ecall"; break;
                case 12: o.what = "c.nop"; o.size = 2; break;
                case 13: o.what = "half"; o.size = 2; o.marked = false; break;
                case 14: o.what = r.nextInt(3) > 0 ? "fence" : r.nextBoolean() ? "ebreak" : "ill"; o.size = o.what.equals("ill") ? 2 : 4; o.marked = !o.what.equals("ill"); break;
                default: o.what = r.nextInt(3) == 0 ? "jalr" : "addi"; o.i = r.nextInt(5) * 2; break;
            }
            if (k == 0 && !o.marked) {
                o.what = "fence";
                o.size = 4;
                o.marked = true;
            }
            write(s, o);
            list.add(o);
            ops.put(at, o);
            starts.add(at);
            at += o.size;
        }
        for (Op o : list) {
            o.target = starts.get(o.target);
        }
        end = at;
        data = (at + 15) / 16 * 16;
        return s + ".data\n.word 1, 2, 3, 4\n";
    }

    private static void write(StringBuilder s, Op o) {
        String d = NAMES[o.d];
        String a = NAMES[o.a];
        String b = NAMES[o.b];
        switch (o.what) {
            case "addi": case "jalr": s.append(o.what.equals("addi") ? "addi " + d + ", " + a + ", " + o.i : "jalr " + d + ", " + o.i + "(" + a + ")"); break;
            case "sub": case "mul": s.append(o.what + " " + d + ", " + a + ", " + b); break;
            case "li": s.append("li " + d + ", " + o.i); break;
            case "sw": case "sb": s.append(o.what + " " + b + ", " + o.i + "(" + a + ")"); break;
            case "lw": case "lbu": s.append(o.what + " " + d + ", " + o.i + "(" + a + ")"); break;
            case "beq": case "bne": s.append(o.what + " " + a + ", " + b + ", l" + o.target); break;
            case "jal": s.append("jal " + d + ", l" + o.target); break;
            case "c.nop": s.append("\n.option rvc\nc.nop\n.option norvc"); break;
            case "half": s.append(".half 1"); break;
            case "ill": s.append(".half 0"); break;
            default: s.append(o.what); break;
        }
        s.append("\n");
    }

    private boolean marked(int at) {
        return ops.containsKey(at) && ops.get(at).marked;
    }

    private void become(int state, int culprit) {
        now.state = state;
        now.culprit = culprit;
    }

    private void jump(int to) {
        now.r[32] = to;
        if (!marked(to)) {
            become(5, to);
        }
    }

    /** Whether bytes lie in a segment that may be read, or written. */
    private boolean may(int at, int n, boolean write) {
        boolean good = Integer.remainderUnsigned(at, n) == 0;
        for (int k = 0; k < n; k++) {
            boolean inData = at + k >= data && at + k < data + 16;
            boolean inText = at + k >= BASE && at + k < end;
            good = good && (inData || inText && !write);
        }
        return good;
    }

    /** One STEP; false when it is none. */
    private boolean step() {
        if (now.state != 0 && now.state != 9) {
            return false;
        }
        int at = now.r[32];
        Op o = ops.get(at);
        if (o == null) {
            become(1, at);
            return false;
        }
        if (o.what.equals("ill")) {
            become(2, at);
            return false;
        }
        int x = now.r[REGISTERS[o.a]];
        int y = now.r[REGISTERS[o.b]];
        int d = REGISTERS[o.d];
        boolean word = o.what.equals("lw") || o.what.equals("sw");
        boolean store = o.what.startsWith("s") && !o.what.equals("sub");
        boolean load = o.what.equals("lw") || o.what.equals("lbu");
        if ((store || load) && !may(x + o.i, word ? 4 : 1, store)) {
            become(load ? 3 : 4, x + o.i);
            return false;
        }
        kept.add(now.copy());
        if (kept.size() > 100) {
            kept.remove(0);
        }
        now.steps++;
        now.units += o.marked ? 1 : 0;
        become(0, 0);
        now.r[32] = at + o.size;
        switch (o.what) {
            case "addi": now.r[d] = x + o.i; break;
            case "sub": now.r[d] = x - y; break;
            case "mul": now.r[d] = x * y; break;
            case "li": now.r[d] = o.i; break;
            case "beq": case "bne": if (x == y == o.what.equals("beq")) { jump(o.target); } break;
            case "jal": now.r[d] = at + 4; jump(o.target); break;
            case "jalr": now.r[d] = at + 4; jump(x + o.i & ~1); break;
            case "ebreak": now.r[32] = at; become(6, at); break;
            case "ecall": serve(at); break;
            case "lw": case "lbu": now.r[d] = read(x + o.i, word ? 4 : 1); break;
            case "sw": case "sb":
                for (int k = 0; k < (word ? 4 : 1); k++) {
                    now.data[x + o.i + k - data] = y >> 8 * k & 255;
                }
                break;
            default: break;
        }
        return true;
    }

    private int read(int at, int n) {
        int v = 0;
        for (int k = n - 1; k >= 0; k--) {
            v = v << 8 | (at + k >= data ? now.data[at + k - data] : code[at + k - BASE]);
        }
        return v;
    }

    /** TEXT's bytes, as memory has them. */
    private int[] code = new int[0];

    private void serve(int at) {
        switch (now.r[17]) {
            case 1:
                boolean room = now.output.size() < 2000;
                if (room) {
                    now.output.add(now.r[10] & 255);
                }
                now.r[10] = room ? now.output.size() : -1;
                break;
            case 2:
                now.r[10] = now.taken < input.size() ? input.get(now.taken++) : -1;
                break;
            case 3: now.r[10] = now.steps - 1; break;
            case 10: now.r[32] = at; now.value = now.r[10]; become(8, at); break;
            default: now.r[32] = at; become(7, at); break;
        }
    }

    private int runUnits(int n) {
        int before = now.units;
        for (int steps = 0; ; steps++) {
            if (now.state != 0 && now.state != 9) {
                return now.units - before;
            }
            int at = now.r[32];
            if (steps > 0 && halts.contains(at)) {
                become(9, at);
                return now.units - before;
            }
            if (marked(at) && now.units - before + 1 > n || steps == 20000 || !step()) {
                return now.units - before;
            }
        }
    }

    private int undo(int n) {
        int done = 0;
        while (done < n && !kept.isEmpty()) {
            now = kept.remove(kept.size() - 1);
            done++;
        }
        return done;
    }

    private void compare(String call, ChainHouse x) {
        for (int k = 0; k < 6; k++) {
            Check.due(call + ": " + NAMES[k], x.get(REGISTERS[k]), now.r[REGISTERS[k]]);
        }
        Check.due(call + ": PC", x.get(32), now.r[32]);
        int[] want = {now.state, now.culprit, now.value, now.steps, now.units, now.output.size(), input.size() - now.taken, kept.size(), halts.size()};
        for (int k = 0; k < 9; k++) {
            Check.due(call + ": state " + k, x.state(k), want[k]);
        }
        for (int k = 0; k < 16; k += 3) {
            Check.due(call + ": memory", x.peek(data + k), now.data[k]);
        }
        int last = now.output.size() - 1;
        Check.due(call + ": OUTPUT", x.output(last), last < 0 ? -1 : now.output.get(last));
    }

    private void run(Random r, int seed, int[] seen) {
        ChainHouse x = new ChainHouse();
        String text = text(r);
        Check.due("seed " + seed + ": assemble (" + x.fault(0) + ")", Check.assemble(x, 0, text) > 0, true);
        Check.due("seed " + seed + ": link", Check.link(x, 1, true) > 0, true);
        Check.due("seed " + seed + ": load", x.load(), 0);
        code = new int[end - BASE];
        for (int k = 0; k < code.length; k++) {
            code[k] = x.peek(BASE + k);
        }
        now.r[32] = BASE;
        now.r[2] = 131056;
        now.r[3] = data + 2048;
        now.data = new int[] {1, 0, 0, 0, 2, 0, 0, 0, 3, 0, 0, 0, 4, 0, 0, 0};
        x.set(9, data);
        now.r[9] = data;
        for (int k = 0; k < 12; k++) {
            String call = "seed " + seed + ", call " + k + ", ";
            int what = r.nextInt(13);
            if (what < 3) {
                step();
                Check.due(call + "step", x.step(), now.state);
                call += "step";
            } else if (what < 7) {
                int n = r.nextInt(4) == 0 ? 2000 : r.nextInt(12);
                Check.due(call + "run", x.run(n), runUnits(n));
                call += "run(" + n + ")";
            } else if (what < 9) {
                int n = r.nextInt(4) == 0 ? 1000 : r.nextInt(6);
                int done = undo(n);
                seen[10] += done;
                Check.due(call + "back", x.back(n), done);
                call += "back(" + n + ")";
            } else if (what < 10) {
                int at = starts.get(r.nextInt(starts.size()));
                boolean on = r.nextInt(3) > 0;
                boolean good = on ? !halts.contains(at) && halts.size() < 8 : halts.contains(at);
                Check.due(call + "halt", x.halt(at, on), good);
                if (good) {
                    boolean done = on ? halts.add(at) : halts.remove(at);
                    kept.clear();
                }
                call += "halt(" + at + ")";
            } else if (what < 11) {
                int n = 1 + r.nextInt(3);
                Check.due(call + "input", x.input(n, 0x4142438000000000L), true);
                for (int j = 0; j < n; j++) {
                    input.add(0x41 + j);
                }
                kept.clear();
                call += "input";
            } else if (what < 12) {
                int which = r.nextInt(6);
                int v = which == 1 ? data + 4 * r.nextInt(3) : r.nextInt(3) == 0 ? starts.get(r.nextInt(starts.size())) : r.nextInt(40) - 4;
                x.set(REGISTERS[which], v);
                now.r[REGISTERS[which]] = v;
                kept.clear();
                call += "set";
            } else {
                int v = r.nextInt(6) == 0 ? data : starts.get(r.nextInt(starts.size()));
                x.set(32, v);
                x.set(33, k);
                now.r[32] = v;
                become(0, 0);
                kept.clear();
                call += "set of PC and STATE";
            }
            seen[now.state]++;
            compare(call, x);
            int pc = now.r[32];
            if (pc > BASE && pc < end && !ops.containsKey(pc)) {
                // within an instruction: what stands there is none of the model's
                x.set(32, BASE);
                now.r[32] = BASE;
                kept.clear();
            }
            if (now.state != 0 && now.state != 9 && r.nextInt(2) == 0) {
                x.set(33, 0);
                become(0, 0);
                kept.clear();
            }
        }
    }
}
