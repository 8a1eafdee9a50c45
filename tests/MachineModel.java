import java.math.BigInteger;
import java.util.ArrayDeque;
import java.util.ArrayList;
import java.util.Arrays;
import java.util.Deque;
import java.util.HashMap;
import java.util.List;
import java.util.Map;
import java.util.TreeMap;
import java.util.TreeSet;

/** A plain machine of section 6, for tests: it works by the words' TEXTS, and each step keeps all that was there ahead of it. */
public final class MachineModel {
    private static final int MEMORY = 131072;
    private static final List<String> REGISTERS = Arrays.asList(WordsModel.REGISTERS);

    /** What was there ahead of a step. */
    private static final class Before {
        int[] r;
        int pc;
        int state;
        int culprit;
        int value;
        int steps;
        int units;
        int taken;
        int put;
        final Map<Integer, Byte> bytes = new TreeMap<>();
    }

    private final byte[] memory = new byte[MEMORY];
    private final int[] rights = new int[MEMORY];
    private final boolean[] marks = new boolean[MEMORY];
    private boolean marking;
    private int[] r = new int[32];
    private int pc;
    public int state;
    private int culprit;
    private int value;
    private int steps;
    private int units;
    private final List<Integer> input = new ArrayList<>();
    private int taken;
    private final List<Integer> output = new ArrayList<>();
    private final TreeSet<Integer> halts = new TreeSet<>();
    private final Deque<Before> kept = new ArrayDeque<>();
    private final Map<Long, String> texts = new HashMap<>();

    /** A machine as it is at first. */
    public MachineModel() {
    }

    /** A machine with a good IMAGE in it. */
    public MachineModel(byte[] file) {
        marking = true;
        int text = 0;
        int note = 0;
        int half = 0;
        pc = Check.number(file, 24, 4);
        r[2] = 131056;
        for (int k = 0; k < Check.number(file, 44, 2); k++) {
            int row = Check.number(file, 28, 4) + 32 * k;
            int begin = Check.number(file, row + 4, 4);
            int at = Check.number(file, row + 8, 4);
            int n = Check.number(file, row + 16, 4);
            int all = Check.number(file, row + 20, 4);
            int sort = Check.number(file, row, 4);
            int right = Check.number(file, row + 24, 4);
            if (sort == 4) {
                note = begin;
            }
            if (sort != 1) {
                continue;
            }
            for (int j = 0; j < all; j++) {
                rights[at + j] = right == 5 ? 5 : right == 4 ? 1 : 3;
                memory[at + j] = j < n ? file[begin + j] : 0;
            }
            if (right == 5) {
                text = at;
                half = n / 2;
            }
            if (right == 6) {
                r[3] = at + 2048;
            }
        }
        for (int k = 0; k < half; k++) {
            marks[text + 2 * k] = (file[note + 28 + k / 8] >> k % 8 & 1) != 0;
        }
    }

    // ---- a step

    private boolean isEnd() {
        return state != 0 && state != 9;
    }

    private boolean marked(int at) {
        return at >= 0 && at < MEMORY && marks[at];
    }

    private int right(int at) {
        return at >= 0 && at < MEMORY ? rights[at] : 0;
    }

    private void become(int number, int what) {
        state = number;
        culprit = what;
    }

    private int word(int at) {
        int w = 0;
        for (int k = 3; k >= 0; k--) {
            w = w << 8 | Math.max(0, peek(at + k));
        }
        return w;
    }

    /** One STEP; false when it is none. */
    public boolean step() {
        if (isEnd()) {
            return false;
        }
        int n = 2;
        for (int k = 0; k < n; k++) {
            if ((right(pc + k) & 4) == 0) {
                become(1, pc + k);
                return false;
            }
            n = (memory[pc] & 3) == 3 ? 4 : 2;
        }
        int w = word(pc);
        String text = texts.computeIfAbsent((long) w << 32 | pc, k -> WordsModel.text(w, pc));
        if (text.startsWith(".")) {
            become(2, pc);
            return false;
        }
        return work(text.replace(",", "").split(" "), n);
    }

    private static int register(String name) {
        return REGISTERS.indexOf(name);
    }

    private static int number(String s) {
        return s.startsWith("0x") ? (int) Long.parseLong(s.substring(2), 16) : Integer.parseInt(s);
    }

    private int address(String operand) {
        int open = operand.indexOf('(');
        return number(operand.substring(0, open)) + r[register(operand.substring(open + 1, operand.length() - 1))];
    }

    private static int width(String access) {
        char c = access.charAt(1);
        return c == 'b' ? 1 : c == 'h' ? 2 : 4;
    }

    private boolean may(String name, int at) {
        int n = width(name);
        boolean load = name.charAt(0) == 'l';
        boolean good = at % n == 0;
        for (int k = 0; k < n; k++) {
            good = good && (right(at + k) & (load ? 1 : 2)) != 0;
        }
        if (!good) {
            become(load ? 3 : 4, at);
        }
        return good;
    }

    private Before keep() {
        Before b = new Before();
        b.r = r.clone();
        b.pc = pc;
        b.state = state;
        b.culprit = culprit;
        b.value = value;
        b.steps = steps;
        b.units = units;
        b.taken = taken;
        b.put = output.size();
        kept.addLast(b);
        if (kept.size() > 100) {
            kept.removeFirst();
        }
        units += !marking || marked(pc) ? 1 : 0;
        steps++;
        become(0, 0);
        return b;
    }

    private void jump(int to) {
        pc = to;
        if (marking && !marked(to)) {
            become(5, to);
        }
    }

    private boolean work(String[] o, int n) {
        String name = o[0].startsWith("c.") ? o[0].substring(2).replace("sp", "") : o[0];
        boolean access = name.matches("l[bhw]u?|s[bhw]");
        int at = access ? address(o[2]) : 0;
        if (access && !may(name, at)) {
            return false;
        }
        Before before = keep();
        int was = pc;
        pc += n;
        int[] x = before.r;
        int a = o.length > 1 ? register(o[1]) : -1;
        int b = o.length > 2 ? register(o[2]) : -1;
        if (access) {
            if (name.charAt(0) == 'l') {
                r[a] = load(name, at);
            } else {
                for (int k = 0; k < width(name); k++) {
                    before.bytes.put(at + k, memory[at + k]);
                    memory[at + k] = (byte) (x[a] >> 8 * k);
                }
            }
        } else if (o[0].startsWith("c.")) {
            shortWork(name, o, x, was, a, b);
        } else {
            longWork(name, o, x, was, a, b);
        }
        r[0] = 0;
        return true;
    }

    private int load(String name, int at) {
        int v = 0;
        for (int k = width(name) - 1; k >= 0; k--) {
            v = v << 8 | memory[at + k] & 255;
        }
        return name.equals("lb") ? (byte) v : name.equals("lh") ? (short) v : v;
    }

    private void shortWork(String name, String[] o, int[] x, int was, int a, int b) {
        switch (name) {
            case "nop": break;
            case "addi4n": r[a] = x[2] + number(o[3]); break;
            case "addi16": r[2] = x[2] + number(o[2]); break;
            case "li": r[a] = number(o[2]); break;
            case "lui": r[a] = number(o[2]) << 12; break;
            case "mv": r[a] = x[b]; break;
            case "jal": case "j": r[name.equals("j") ? 0 : 1] = was + 2; jump(number(o[1])); break;
            case "jr": case "jalr": r[name.equals("jr") ? 0 : 1] = was + 2; jump(x[a] & ~1); break;
            case "beqz": case "bnez": if (x[a] == 0 == name.equals("beqz")) { jump(number(o[2])); } break;
            case "ebreak": stay(was, 6); break;
            default: r[a] = computed(name, x[a], b >= 0 ? x[b] : number(o[2])); break;
        }
    }

    private void stay(int at, int number) {
        pc = at;
        become(number, at);
    }

    private void longWork(String name, String[] o, int[] x, int was, int a, int b) {
        switch (name) {
            case "fence": break;
            case "ebreak": stay(was, 6); break;
            case "ecall": serve(was); break;
            case "lui": r[a] = number(o[2]) << 12; break;
            case "auipc": r[a] = was + (number(o[2]) << 12); break;
            case "jal": r[a] = was + 4; jump(number(o[2])); break;
            case "jalr": {
                // a as it was: d may be the same register
                int to = address(o[2]) & ~1;
                r[a] = was + 4;
                jump(to);
                break;
            }
            case "beq": case "bne": case "blt": case "bge": case "bltu": case "bgeu":
                if (isSo(name, x[a], x[b])) {
                    jump(number(o[3]));
                }
                break;
            default: r[a] = computed(name, x[b], register(o[3]) >= 0 ? x[register(o[3])] : number(o[3])); break;
        }
    }

    private static boolean isSo(String name, int x, int y) {
        switch (name) {
            case "beq": return x == y;
            case "bne": return x != y;
            case "blt": return x < y;
            case "bge": return x >= y;
            case "bltu": return Integer.compareUnsigned(x, y) < 0;
            default: return Integer.compareUnsigned(x, y) >= 0;
        }
    }

    private static BigInteger big(int v, boolean sign) {
        return BigInteger.valueOf(sign ? v : v & 0xffffffffL);
    }

    private static int computed(String name, int x, int y) {
        switch (name) {
            case "add": case "addi": return x + y;
            case "sub": return x - y;
            case "slt": case "slti": return x < y ? 1 : 0;
            case "sltu": case "sltiu": return Integer.compareUnsigned(x, y) < 0 ? 1 : 0;
            case "xor": case "xori": return x ^ y;
            case "or": case "ori": return x | y;
            case "and": case "andi": return x & y;
            case "sll": case "slli": return x << (y & 31);
            case "srl": case "srli": return x >>> (y & 31);
            case "sra": case "srai": return x >> (y & 31);
            case "mul": return big(x, true).multiply(big(y, true)).intValue();
            case "mulh": return big(x, true).multiply(big(y, true)).shiftRight(32).intValue();
            case "mulhsu": return big(x, true).multiply(big(y, false)).shiftRight(32).intValue();
            case "mulhu": return big(x, false).multiply(big(y, false)).shiftRight(32).intValue();
            case "div": return y == 0 ? -1 : big(x, true).divide(big(y, true)).intValue();
            case "divu": return y == 0 ? -1 : Integer.divideUnsigned(x, y);
            case "rem": return y == 0 ? x : big(x, true).remainder(big(y, true)).intValue();
            case "remu": return y == 0 ? x : Integer.remainderUnsigned(x, y);
            default: throw new IllegalStateException(name);
        }
    }

    private void serve(int at) {
        switch (r[17]) {
            case 1:
                if (output.size() < 2000) {
                    output.add(r[10] & 255);
                    r[10] = output.size();
                } else {
                    r[10] = -1;
                }
                break;
            case 2:
                if (taken < input.size()) {
                    r[10] = input.get(taken);
                    taken++;
                } else {
                    r[10] = -1;
                }
                break;
            case 3: r[10] = steps - 1; break;
            case 10: value = r[10]; stay(at, 8); break;
            default: stay(at, 7); break;
        }
    }

    // ---- the calls

    public int run(int n) {
        if (n < 0 || n > 2000) {
            return -1;
        }
        int before = units;
        for (int k = 0; !isEnd(); k++) {
            if (k > 0 && halts.contains(pc)) {
                become(9, pc);
            } else if (k < 20000 && !((!marking || marked(pc)) && units - before == n) && step()) {
                continue;
            }
            break;
        }
        return units - before;
    }

    public int back(int n) {
        int done = 0;
        while (done < n && !kept.isEmpty()) {
            Before b = kept.removeLast();
            r = b.r;
            pc = b.pc;
            state = b.state;
            culprit = b.culprit;
            value = b.value;
            steps = b.steps;
            units = b.units;
            taken = b.taken;
            while (output.size() > b.put) {
                output.remove(output.size() - 1);
            }
            for (Map.Entry<Integer, Byte> e : b.bytes.entrySet()) {
                memory[e.getKey()] = e.getValue();
            }
            done++;
        }
        return done;
    }

    public boolean set(int n, int v) {
        if (n < 1 || n > 33 || n == 32 && v % 2 != 0) {
            return false;
        }
        if (n == 33) {
            become(0, 0);
        } else if (n == 32) {
            pc = v;
        } else {
            r[n] = v;
        }
        kept.clear();
        return true;
    }

    public int get(int n) {
        return n == 32 ? pc : n >= 0 && n < 32 ? r[n] : 0;
    }

    public int peek(int at) {
        return at >= 0 && at < MEMORY ? memory[at] & 255 : -1;
    }

    public boolean input(int n, long eight) {
        if (n < 1 || n > 8 || input.size() + n > 1000) {
            return false;
        }
        for (int k = 0; k < n; k++) {
            input.add((int) (eight >>> 56 - 8 * k) & 255);
        }
        kept.clear();
        return true;
    }

    public boolean halt(int at, boolean on) {
        if (at < 0 || at % 2 != 0 || halts.contains(at) == on || on && halts.size() == 8) {
            return false;
        }
        boolean done = on ? halts.add(at) : halts.remove(at);
        kept.clear();
        return done;
    }

    public int state(int what) {
        int[] all = {state, culprit, value, steps, units, output.size(), input.size() - taken, kept.size(), halts.size()};
        return what >= 0 && what < all.length ? all[what] : -1;
    }

    public int output(int k) {
        return k >= 0 && k < output.size() ? output.get(k) : -1;
    }

    public int rights(int at) {
        return right(at) + (marked(at) ? 8 : 0);
    }

    /** The TEXT of the word at an address; null without one. */
    public String text(int at) {
        return at < 0 || at >= MEMORY || at % 2 != 0 ? null : WordsModel.text(word(at), at);
    }
}
