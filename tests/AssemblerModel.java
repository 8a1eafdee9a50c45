import java.io.ByteArrayOutputStream;
import java.math.BigInteger;
import java.nio.charset.StandardCharsets;
import java.util.ArrayDeque;
import java.util.ArrayList;
import java.util.Arrays;
import java.util.Deque;
import java.util.LinkedHashMap;
import java.util.List;
import java.util.Map;
import java.util.Set;
import java.util.HashSet;

/** A plain reader and assembler of the sections 2 and 7, for tests. */
public final class AssemblerModel {
    /** What ends the model's reading or assembling. */
    public static final class Fault extends RuntimeException {
        private static final long serialVersionUID = 1;
        public final int number;
        public final int place;

        public Fault(int number, int place) {
            this.number = number;
            this.place = place;
        }
    }

    private static final class Token {
        char kind;
        int place;
        String text = "";
        int value;
    }

    private static final class Operand {
        char sort;
        int place;
        int register;
        int mark;
        String string;
        final List<Object[]> items = new ArrayList<>();
    }

    private static final class Statement {
        char kind;
        int place;
        String name;
        int digit;
        final List<Operand> operands = new ArrayList<>();
    }

    public static final class Symbol {
        public String name;
        public int where = -1;
        public int value;
        public int size;
        public int bind;
    }

    private static final class Value {
        int n;
        int added = -1;
        int taken = -1;
    }

    private final String text;
    private int pos;
    private Token token;
    private final List<Statement> statements = new ArrayList<>();
    private final Set<String> names = new HashSet<>();
    private int operandCount;
    private int itemCount;
    private int itemsOfOne;

    public final List<Symbol> symbols = new ArrayList<>();
    public final List<int[]> relocations = new ArrayList<>();
    public final List<Integer> starts = new ArrayList<>();
    public final List<List<Integer>> bytes = new ArrayList<>();
    public int bss;
    public final int[] alignments = {4, 1, 1, 1};
    private final Map<String, Integer> numbers = new LinkedHashMap<>();
    private int current;
    private boolean shorts = true;
    private boolean shrinks = true;
    private final Deque<boolean[]> pushed = new ArrayDeque<>();
    private final int[] latest = new int[10];
    private final int[] next = new int[10];
    private final int[] nextPlace = new int[10];
    private int hidden;
    private int here;
    private int begin;
    private Statement statement;

    public AssemblerModel(String text) {
        this.text = text;
        for (int k = 0; k < 3; k++) {
            bytes.add(new ArrayList<>());
        }
        Arrays.fill(latest, -1);
        Arrays.fill(next, -1);
    }

    // ---- words of a TEXT

    private char c(int at) {
        return at < text.length() ? text.charAt(at) : '\uffff';
    }

    private static boolean first(char c) {
        return c >= 'a' && c <= 'z' || c >= 'A' && c <= 'Z' || c == '_' || c == '.';
    }

    private static boolean ofName(char c) {
        return first(c) || c >= '0' && c <= '9' || c == '$';
    }

    private void read() {
        while (c(pos) == ' ' || c(pos) == '\t') {
            pos++;
        }
        token = new Token();
        token.place = pos;
        char c = c(pos);
        if (c == '#') {
            while (pos < text.length() && c(pos) != '\n') {
                if (c(pos) != '\t' && (c(pos) < 32 || c(pos) > 126)) {
                    throw new Fault(1, pos);
                }
                pos++;
            }
            token.place = pos;
            c = c(pos);
        }
        if (pos >= text.length() || c == '\n') {
            token.kind = 'E';
            pos = Math.min(pos + 1, text.length());
        } else if (first(c)) {
            while (ofName(c(pos))) {
                pos++;
            }
            token.kind = 'N';
            token.text = text.substring(token.place, pos);
            if (token.text.length() > 16) {
                throw new Fault(2, token.place);
            }
        } else if (c >= '0' && c <= '9') {
            number();
        } else if (c == '\'' || c == '"') {
            quoted(c);
        } else if (",():+-*/%&|^~".indexOf(c) >= 0) {
            token.kind = c;
            pos++;
        } else if ((c == '<' || c == '>') && c(pos + 1) == c) {
            token.kind = c;
            pos += 2;
        } else {
            throw new Fault(1, pos);
        }
    }

    private void number() {
        String rest = text.substring(pos);
        String digits;
        int base = 10;
        int skip = 0;
        if (rest.startsWith("0x")) {
            base = 16;
            skip = 2;
            digits = rest.substring(2).replaceAll("(?s)[^0-9a-fA-F].*", "");
        } else if (rest.matches("(?s)0b[01].*")) {
            base = 2;
            skip = 2;
            digits = rest.substring(2).replaceAll("(?s)[^01].*", "");
        } else if (rest.matches("(?s)[0-9][bf].*") && !ofName(c(pos + 2))) {
            token.kind = 'L';
            token.value = 2 * (c(pos) - '0') + (c(pos + 1) == 'f' ? 1 : 0);
            pos += 2;
            return;
        } else {
            digits = rest.replaceAll("(?s)[^0-9].*", "");
        }
        if (digits.isEmpty() || new BigInteger(digits, base).bitLength() > 32) {
            throw new Fault(3, pos);
        }
        token.kind = 'D';
        token.value = new BigInteger(digits, base).intValue();
        pos += skip + digits.length();
        token.text = text.substring(token.place, pos);
    }

    private void quoted(char quote) {
        StringBuilder s = new StringBuilder();
        int at = pos + 1;
        while (c(at) >= 32 && c(at) <= 126 && c(at) != quote) {
            if (c(at) == '\\') {
                int k = "nt0\\'\"".indexOf(c(at + 1));
                if (k < 0) {
                    throw new Fault(4, pos);
                }
                s.append("\n\t\0\\'\"".charAt(k));
                at++;
            } else {
                s.append(c(at));
            }
            at++;
            if (quote == '\'') {
                break;
            }
        }
        if (c(at) != quote || quote == '\'' && s.length() == 0) {
            throw new Fault(4, pos);
        }
        token.kind = quote == '"' ? 'S' : 'C';
        token.text = s.toString();
        token.value = quote == '"' ? 0 : s.charAt(0);
        pos = at + 1;
    }

    private static int register(String name) {
        int k = Arrays.asList(WordsModel.REGISTERS).indexOf(name);
        if (k < 0 && name.equals("fp")) {
            return 8;
        }
        return k < 0 && name.matches("x([0-9]|[12][0-9]|3[01])") ? Integer.parseInt(name.substring(1)) : k;
    }

    // ---- lines

    private void demand(boolean good, int fault) {
        if (!good) {
            throw new Fault(fault, token.place);
        }
    }

    private void name(String name, int place) {
        if (!names.contains(name) && names.size() == 150) {
            throw new Fault(8, place);
        }
        names.add(name);
    }

    private Statement add(char kind) {
        demand(statements.size() < 400, 8);
        Statement s = new Statement();
        s.kind = kind;
        s.place = token.place;
        statements.add(s);
        return s;
    }

    private void line() {
        read();
        while (token.kind != 'E') {
            if (token.kind == 'D' && token.text.length() == 1) {
                add('D').digit = token.value;
                read();
                demand(token.kind == ':', 5);
                read();
                continue;
            }
            demand(token.kind == 'N' && !token.text.equals("."), 5);
            Statement s = add('W');
            s.name = token.text;
            name(token.text, token.place);
            read();
            if (token.kind == ':' && register(s.name) < 0) {
                s.kind = 'L';
                read();
                continue;
            }
            operands(s);
            return;
        }
    }

    private void operands(Statement s) {
        if (token.kind == 'E') {
            return;
        }
        while (true) {
            demand("NDLCS(-~%".indexOf(token.kind) >= 0, 5);
            demand(operandCount < 800, 8);
            operandCount++;
            Operand o = new Operand();
            o.place = token.place;
            s.operands.add(o);
            operand(o);
            if (token.kind == 'E') {
                return;
            }
            demand(token.kind == ',', 5);
            read();
        }
    }

    private boolean isRegister() {
        return token.kind == 'N' && register(token.text) >= 0;
    }

    private void operand(Operand o) {
        itemsOfOne = 0;
        if (token.kind == 'S') {
            o.sort = 'S';
            o.string = token.text;
            read();
            return;
        }
        if (isRegister()) {
            o.sort = 'R';
            o.register = register(token.text);
            read();
            return;
        }
        o.sort = 'E';
        if (token.kind == '%') {
            read();
            demand(token.kind == 'N', 5);
            o.mark = Arrays.asList("", "hi", "lo", "pcrel_hi", "pcrel_lo").indexOf(token.text);
            demand(o.mark > 0, 6);
            read();
            demand(token.kind == '(', 5);
            read();
            binary(o, 0, 1);
            demand(token.kind == ')', 5);
            read();
        } else if (token.kind == '(') {
            // a look at the next word tells whether it is a MEMORY
            Token open = token;
            int back = pos;
            read();
            boolean memory = isRegister();
            pos = back;
            token = open;
            if (memory) {
                count();
                o.items.add(new Object[] {'n', 0});
            } else {
                binary(o, 0, 1);
            }
        } else {
            binary(o, 0, 1);
        }
        if (token.kind == '(') {
            o.sort = 'M';
            read();
            demand(isRegister(), 5);
            o.register = register(token.text);
            read();
            demand(token.kind == ')', 5);
            read();
        }
    }

    private void count() {
        demand(itemsOfOne < 60 && itemCount < 2000, 8);
        itemsOfOne++;
        itemCount++;
    }

    private static final String[] LEVELS = {"|", "^", "&", "<>", "+-", "*/%"};

    private void binary(Operand o, int level, int depth) {
        if (level == 6) {
            primary(o, depth);
            return;
        }
        binary(o, level + 1, depth);
        while (LEVELS[level].indexOf(token.kind) >= 0) {
            char sign = token.kind;
            count();
            read();
            binary(o, level + 1, depth);
            o.items.add(new Object[] {sign, 0});
        }
    }

    private void primary(Operand o, int depth) {
        demand("NDLC(-~".indexOf(token.kind) >= 0, 5);
        demand(!isRegister(), 6);
        demand(depth <= 20, 7);
        if (token.kind == '(') {
            read();
            binary(o, 0, depth + 1);
            demand(token.kind == ')', 5);
            read();
            return;
        }
        count();
        if (token.kind == '-' || token.kind == '~') {
            char sign = token.kind == '-' ? 'm' : '~';
            read();
            primary(o, depth + 1);
            o.items.add(new Object[] {sign, 0});
            return;
        }
        if (token.kind == 'N' && !token.text.equals(".")) {
            name(token.text, token.place);
            o.items.add(new Object[] {'s', token.text});
        } else {
            o.items.add(new Object[] {token.kind == 'N' ? 'h' : token.kind == 'L' ? 'l' : 'n', token.value});
        }
        read();
    }

    // ---- symbols and values

    private int end() {
        return current == 3 ? bss : bytes.get(current).size();
    }

    private Fault at(int fault) {
        return new Fault(fault, statement.place);
    }

    private int symbol(String name) {
        if (!numbers.containsKey(name)) {
            if (symbols.size() == 100) {
                throw at(18);
            }
            Symbol s = new Symbol();
            s.name = name;
            numbers.put(name, symbols.size());
            symbols.add(s);
        }
        return numbers.get(name);
    }

    private int newHidden() {
        int s = symbol("$" + hidden);
        hidden++;
        return s;
    }

    private int here() {
        if (here < 0) {
            here = newHidden();
            symbols.get(here).where = current;
            symbols.get(here).value = begin;
        }
        return here;
    }

    private void define(int k, int where, int value) {
        Symbol s = symbols.get(k);
        if (s.where >= 0) {
            throw at(16);
        }
        s.where = where;
        s.value = value;
    }

    private Value value(Operand o) {
        for (Object[] item : o.items) {
            if ((char) item[0] == 'l' && (int) item[1] % 2 == 0 && latest[(int) item[1] / 2] < 0) {
                throw new Fault(13, o.place);
            }
        }
        Deque<Value> stack = new ArrayDeque<>();
        for (Object[] item : o.items) {
            char sort = (char) item[0];
            Value v = new Value();
            if (sort == 'n') {
                v.n = (int) item[1];
            } else if (sort == 's' || sort == 'h' || sort == 'l') {
                v.added = sort == 's' ? symbol((String) item[1]) : sort == 'h' ? here() : local((int) item[1], o.place);
                if (sort == 's' && symbols.get(v.added).where == 4) {
                    v.n = symbols.get(v.added).value;
                    v.added = -1;
                }
            } else {
                Value right = stack.pop();
                v = sort == 'm' ? turned(right) : sort == '~' ? worked('^', of(-1), right, o) : worked(sort, stack.pop(), right, o);
            }
            stack.push(v);
        }
        return stack.pop();
    }

    private int local(int which, int place) {
        int digit = which / 2;
        if (which % 2 == 0) {
            return latest[digit];
        }
        if (next[digit] < 0) {
            next[digit] = newHidden();
            nextPlace[digit] = place;
        }
        return next[digit];
    }

    private static Value of(int n) {
        Value v = new Value();
        v.n = n;
        return v;
    }

    private static Value turned(Value v) {
        Value t = of(-v.n);
        t.added = v.taken;
        t.taken = v.added;
        return t;
    }

    private static boolean plain(Value v) {
        return v.added < 0 && v.taken < 0;
    }

    private static boolean placed(Value v) {
        return v.added >= 0 && v.taken < 0;
    }

    private static Value worked(char sort, Value x, Value right, Operand o) {
        if (sort == '+' || sort == '-') {
            Value y = sort == '-' ? turned(right) : right;
            if (x.added >= 0 && y.added >= 0 || x.taken >= 0 && y.taken >= 0) {
                throw new Fault(14, o.place);
            }
            Value v = of(x.n + y.n);
            v.added = Math.max(x.added, y.added);
            v.taken = Math.max(x.taken, y.taken);
            if (v.added == v.taken) {
                v.added = -1;
                v.taken = -1;
            }
            return v;
        }
        if (!plain(x) || !plain(right) || right.n == 0 && (sort == '/' || sort == '%')) {
            throw new Fault(14, o.place);
        }
        int a = x.n;
        int b = right.n;
        switch (sort) {
            case '*': return of(a * b);
            case '/': return of(b == -1 ? -a : a / b);
            case '%': return of(b == -1 ? 0 : a % b);
            case '<': return of(a << b % 32 + (b % 32 < 0 ? 32 : 0));
            case '>': return of(a >>> (b & 31));
            case '&': return of(a & b);
            case '^': return of(a ^ b);
            default: return of(a | b);
        }
    }

    // ---- statements

    /** Reads and assembles; a Fault is thrown. */
    public void assemble() {
        do {
            line();
        } while (token.place < text.length());
        for (Statement s : statements) {
            statement = s;
            begin = end();
            here = -1;
            if (s.kind == 'L') {
                define(symbol(s.name), current, begin);
            } else if (s.kind == 'D') {
                int k = next[s.digit] >= 0 ? next[s.digit] : newHidden();
                define(k, current, begin);
                latest[s.digit] = k;
                next[s.digit] = -1;
            } else if (WordsModel.isAmong(s.name, DIRECTIVES)) {
                direct(s);
            } else {
                instruct(s);
            }
        }
        int first = -1;
        for (int d = 0; d < 10; d++) {
            if (next[d] >= 0 && (first < 0 || nextPlace[d] < first)) {
                first = nextPlace[d];
            }
        }
        if (first >= 0) {
            throw new Fault(19, first);
        }
        for (Symbol s : symbols) {
            s.bind = s.where < 0 && s.bind == 0 ? 1 : s.bind;
        }
        if (file().length > 8192) {
            throw new Fault(20, text.length());
        }
    }

    private static final String DIRECTIVES = ".text .rodata .data .bss .globl .weak .equ .comm .byte .half .word .ascii .asciz .zero .align .option";

    private void put(long v, int width) {
        if (bytes.get(current).size() + width > 2048) {
            throw at(18);
        }
        for (int k = 0; k < width; k++) {
            bytes.get(current).add((int) (v >> 8 * k) & 255);
        }
    }

    private void zeros(int n) {
        if (current == 3 && bss + n > 4096) {
            throw at(18);
        }
        if (current == 3) {
            bss += n;
        }
        for (int k = 0; k < n && current < 3; k++) {
            put(0, 1);
        }
    }

    private void relocation(int place, int kind, int symbol, int addend) {
        if (relocations.size() == 300) {
            throw at(18);
        }
        relocations.add(new int[] {current, place, kind, symbol, addend});
        if (shrinks && (kind == 19 || kind >= 23 && kind <= 28)) {
            if (relocations.size() == 300) {
                throw at(18);
            }
            relocations.add(new int[] {current, place, 51, -1, 0});
        }
    }

    /** The name that an operand is alone; null when it is something else. */
    private static String alone(Operand o) {
        return o.sort == 'E' && o.mark == 0 && o.items.size() == 1 && (char) o.items.get(0)[0] == 's' ? (String) o.items.get(0)[1] : null;
    }

    /** Operands by sorts: s a name alone, n and others an EXPRESSION, g a STRING; a * for one or more. */
    private boolean are(Statement s, String sorts) {
        boolean many = sorts.endsWith("*");
        if (many ? s.operands.isEmpty() : s.operands.size() != sorts.length()) {
            return false;
        }
        for (int k = 0; k < s.operands.size(); k++) {
            Operand o = s.operands.get(k);
            char c = sorts.charAt(many ? 0 : k);
            boolean good = c == 's' ? alone(o) != null : c == 'g' ? o.sort == 'S' : c == 'r' ? o.sort == 'R' : c == 'p' ? o.sort == 'R' && o.register == 2
                : c == 'm' ? o.sort == 'M' : c == 'q' ? o.sort == 'M' && o.register == 2 : o.sort == 'E';
            if (!good) {
                return false;
            }
        }
        return true;
    }

    private static boolean marked(Statement s, String allowed) {
        for (Operand o : s.operands) {
            if (o.mark != 0 && allowed.indexOf('0' + o.mark) < 0) {
                return true;
            }
        }
        return false;
    }

    private int number(Operand o, long least, long greatest) {
        Value v = value(o);
        if (!plain(v)) {
            throw new Fault(14, o.place);
        }
        if (v.n < least || v.n > greatest) {
            throw new Fault(15, o.place);
        }
        return v.n;
    }

    private void direct(Statement s) {
        if (current == 3 && WordsModel.isAmong(s.name, ".byte .half .word .ascii .asciz")) {
            throw at(10);
        }
        List<Operand> o = s.operands;
        String sorts = "";
        switch (s.name) {
            case ".globl": case ".weak": case ".option": sorts = "s"; break;
            case ".equ": sorts = "sn"; break;
            case ".comm": sorts = "snn"; break;
            case ".byte": case ".half": case ".word": sorts = "n*"; break;
            case ".ascii": case ".asciz": sorts = "g*"; break;
            case ".zero": case ".align": sorts = "n"; break;
            default: break;
        }
        boolean option = s.name.equals(".option");
        if (!are(s, sorts) || marked(s, "") || option && !WordsModel.isAmong(alone(o.get(0)), "rvc norvc relax norelax push pop")) {
            throw at(12);
        }
        int aim = sorts.startsWith("s") && !option ? symbol(alone(o.get(0))) : -1;
        switch (s.name) {
            case ".globl": symbols.get(aim).bind = 1; break;
            case ".weak":
                if (symbols.get(aim).where == 5) {
                    throw at(16);
                }
                symbols.get(aim).bind = 2;
                break;
            case ".equ": define(aim, 4, number(o.get(1), Integer.MIN_VALUE, Integer.MAX_VALUE)); break;
            case ".comm": common(aim, o); break;
            case ".zero": zeros(number(o.get(0), 0, 4096)); break;
            case ".align": align(number(o.get(0), 0, 6)); break;
            case ".option": option(alone(o.get(0))); break;
            case ".byte": data(o, 1); break;
            case ".half": data(o, 2); break;
            case ".word": data(o, 4); break;
            case ".ascii": case ".asciz":
                for (Operand one : o) {
                    for (char c : (one.string + (s.name.equals(".asciz") ? "\0" : "")).toCharArray()) {
                        put(c, 1);
                    }
                }
                break;
            default: current = Arrays.asList(".text", ".rodata", ".data", ".bss").indexOf(s.name); break;
        }
    }

    private void common(int aim, List<Operand> o) {
        int n = number(o.get(1), 1, 4096);
        int m = number(o.get(2), 1, 64);
        if (Integer.bitCount(m) != 1) {
            throw new Fault(15, o.get(2).place);
        }
        if (symbols.get(aim).bind == 2) {
            throw at(16);
        }
        define(aim, 5, m);
        symbols.get(aim).size = n;
        symbols.get(aim).bind = 1;
    }

    private void data(List<Operand> operands, int width) {
        List<Value> values = new ArrayList<>();
        for (Operand o : operands) {
            Value v = value(o);
            long least = width == 1 ? -128 : width == 2 ? -32768 : Integer.MIN_VALUE;
            long most = width == 1 ? 255 : width == 2 ? 65535 : Integer.MAX_VALUE;
            if (!plain(v) && (v.added < 0 || v.taken < 0 && width < 4)) {
                throw new Fault(14, o.place);
            }
            if (plain(v) && (v.n < least || v.n > most)) {
                throw new Fault(15, o.place);
            }
            values.add(v);
        }
        for (Value v : values) {
            int place = end();
            put(plain(v) ? v.n : 0, width);
            int row = width == 4 ? 2 : width - 1;
            if (placed(v)) {
                relocation(place, 1, v.added, v.n);
            } else if (!plain(v)) {
                relocation(place, 33 + row, v.added, v.n);
                relocation(place, 37 + row, v.taken, 0);
            }
        }
    }

    private void align(int n) {
        int multiple = 1 << n;
        alignments[current] = Math.max(alignments[current], multiple);
        int place = end();
        if (current != 0) {
            zeros((multiple - place % multiple) % multiple);
            return;
        }
        int count = multiple - (shorts ? 2 : 4);
        if (count > 0) {
            for (int k = 0; k < count / 4; k++) {
                put(0x13, 4);
            }
            if (count % 4 == 2) {
                put(1, 2);
            }
            relocation(place, 43, -1, count);
        }
    }

    private void option(String name) {
        switch (name) {
            case "rvc": shorts = true; break;
            case "norvc": shorts = false; break;
            case "relax": shrinks = true; break;
            case "norelax": shrinks = false; break;
            case "push":
                if (pushed.size() == 8) {
                    throw at(17);
                }
                pushed.push(new boolean[] {shorts, shrinks});
                break;
            default:
                if (pushed.isEmpty()) {
                    throw at(17);
                }
                boolean[] was = pushed.pop();
                shorts = was[0];
                shrinks = was[1];
                break;
        }
    }

    // ---- instructions

    private static final String I = "addi slti sltiu xori ori andi";
    private static final String H = "slli srli srai";
    private static final String R = "add sub sll slt sltu xor srl sra or and mul mulh mulhsu mulhu div divu rem remu";
    private static final String B = "beq bne blt bge bltu bgeu";
    private static final String LOADS = "lb lh lw lbu lhu";
    private static final String STORES = "sb sh sw";
    /** Others: name, operands (r and t), the kind, and its d, a, b: the number of an operand, or a register behind x; i. */
    private static final String[] OTHERS = {"nop - addi x0 x0 x0 0", "mv rr addi 0 1 x0 0", "not rr xori 0 1 x0 -1", "neg rr sub 0 x0 1 0", "seqz rr sltiu 0 1 x0 1", "snez rr sltu 0 x0 1 0",
        "sltz rr slt 0 1 x0 0", "sgtz rr slt 0 x0 1 0", "beqz rt beq x0 0 x0 0", "bnez rt bne x0 0 x0 0", "bgez rt bge x0 0 x0 0", "bltz rt blt x0 0 x0 0", "blez rt bge x0 x0 0 0", "bgtz rt blt x0 x0 0 0",
        "bgt rrt blt x0 1 0 0", "ble rrt bge x0 1 0 0", "bgtu rrt bltu x0 1 0 0", "bleu rrt bgeu x0 1 0 0", "j t jal x0 x0 x0 0", "jal t jal x1 x0 x0 0", "jr r jalr x0 0 x0 0", "jalr r jalr x1 0 x0 0",
        "ret - jalr x0 x1 x0 0"};

    /** The kinds' operands: r registers, with the part of each; n a number, P a target, m a MEMORY, q one with sp, p sp. */
    private static String[] shape(String name) {
        if (WordsModel.isAmong(name, I + " " + H)) {
            return new String[] {"rrn", "da"};
        }
        if (WordsModel.isAmong(name, R)) {
            return new String[] {"rrr", "dab"};
        }
        if (WordsModel.isAmong(name, B)) {
            return new String[] {"rrP", "ab"};
        }
        if (WordsModel.isAmong(name, LOADS + " jalr c.lw")) {
            return new String[] {"rm", "d"};
        }
        if (WordsModel.isAmong(name, STORES + " c.sw")) {
            return new String[] {"rm", "b"};
        }
        switch (name) {
            case "lui": case "auipc": case "c.lui": case "c.addi": case "c.li": case "c.srli": case "c.srai": case "c.andi": case "c.slli": return new String[] {"rn", "d"};
            case "jal": return new String[] {"rP", "d"};
            case "c.jal": case "c.j": return new String[] {"P", ""};
            case "c.beqz": case "c.bnez": return new String[] {"rP", "a"};
            case "c.sub": case "c.xor": case "c.or": case "c.and": case "c.mv": case "c.add": return new String[] {"rr", "db"};
            case "c.jr": case "c.jalr": return new String[] {"r", "a"};
            case "c.lwsp": return new String[] {"rq", "d"};
            case "c.swsp": return new String[] {"rq", "b"};
            case "c.addi4spn": return new String[] {"rpn", "d"};
            case "c.addi16sp": return new String[] {"pn", ""};
            case "fence": case "ecall": case "ebreak": case "c.nop": case "c.ebreak": return new String[] {"", ""};
            default: return null;
        }
    }

    private static String[] row(String name) {
        for (String[] row : WordsModel.SHORTS) {
            if (row[0].equals(name)) {
                return row;
            }
        }
        return null;
    }

    private static boolean mayBe(String name, char part, int r) {
        String[] row = row(name);
        if (row == null) {
            return true;
        }
        if (row[1].contains(part + "'")) {
            return r >= 8 && r <= 15;
        }
        return !(row[3].indexOf(part) >= 0 && r == 0) && !(row[3].contains("l") && r == 2);
    }

    private static boolean mayBe(String name, int i) {
        if (WordsModel.isAmong(name, I + " jalr " + LOADS + " " + STORES)) {
            return i >= -2048 && i <= 2047;
        }
        if (WordsModel.isAmong(name, H)) {
            return i >= 0 && i < 32;
        }
        switch (name) {
            case "lui": case "auipc": return i >= 0 && i < 1 << 20;
            case "c.addi4spn": return i >= 4 && i <= 1020 && i % 4 == 0;
            case "c.lw": case "c.sw": return i >= 0 && i <= 124 && i % 4 == 0;
            case "c.lwsp": case "c.swsp": return i >= 0 && i <= 252 && i % 4 == 0;
            case "c.addi": return i >= -32 && i <= 31 && i != 0;
            case "c.li": case "c.andi": return i >= -32 && i <= 31;
            case "c.addi16sp": return i >= -512 && i <= 496 && i % 16 == 0 && i != 0;
            case "c.lui": return i >= 1 && i <= 31 || i >= (1 << 20) - 32 && i < 1 << 20;
            default: return i >= 1 && i <= 31;
        }
    }

    private void word(String name, int d, int a, int b, int i, boolean stays) {
        Integer w = row(name) != null ? WordsModel.shortWord(name, d, a, b, i) : stays || !shorts ? null : WordsModel.shorter(name, d, a, b, i);
        if (w != null) {
            put(w, 2);
        } else {
            put(WordsModel.longWord(name, d, a, b, i), 4);
        }
    }

    private Value target(Operand o) {
        Value v = value(o);
        if (!placed(v)) {
            throw new Fault(14, o.place);
        }
        return v;
    }

    private void instruct(Statement s) {
        String[] other = null;
        for (String row : OTHERS) {
            String[] r = row.split(" ");
            boolean both = r[0].equals("jal") || r[0].equals("jalr");
            String sorts = r[1].equals("-") ? "" : r[1];
            if (r[0].equals(s.name) && (!both || are(s, sorts) && !marked(s, ""))) {
                other = r;
            }
        }
        boolean special = WordsModel.isAmong(s.name, "li la call tail");
        if (other == null && !special && shape(s.name) == null) {
            throw at(9);
        }
        if (current != 0 || end() % 2 != 0) {
            throw at(10);
        }
        if (row(s.name) != null && !shorts) {
            throw at(11);
        }
        boolean load = WordsModel.isAmong(s.name, LOADS) && are(s, "rt") && !marked(s, "");
        boolean store = WordsModel.isAmong(s.name, STORES) && are(s, "rtr") && !marked(s, "");
        if (special || load || store) {
            access(s, load, store);
        } else if (other != null) {
            other(s, other);
        } else {
            kind(s);
        }
    }

    private void access(Statement s, boolean load, boolean store) {
        List<Operand> o = s.operands;
        boolean call = s.name.equals("call") || s.name.equals("tail");
        if (!load && !store && (!are(s, call ? "t" : "rt") || marked(s, ""))) {
            throw at(12);
        }
        Operand e = o.get(call ? 0 : 1);
        Value v = value(e);
        boolean number = !call && plain(v) && (s.name.equals("li") || s.name.equals("la"));
        if (!number && (!placed(v) || s.name.equals("li"))) {
            throw new Fault(14, e.place);
        }
        starts.add(end());
        int d = call ? 0 : o.get(0).register;
        if (number) {
            boolean small = v.n >= -2048 && v.n <= 2047;
            if (!small) {
                word("lui", d, 0, 0, v.n + 2048 >>> 12, false);
            }
            if (small || v.n << 20 != 0) {
                word("addi", d, small ? 0 : d, 0, v.n << 20 >> 20, false);
            }
            return;
        }
        int place = end();
        if (call) {
            int r = s.name.equals("call") ? 1 : 6;
            word("auipc", r, 0, 0, 0, true);
            word("jalr", r == 1 ? 1 : 0, r, 0, 0, true);
            relocation(place, 19, v.added, v.n);
            return;
        }
        int base = store ? o.get(2).register : d;
        word("auipc", base, 0, 0, 0, true);
        relocation(place, 23, v.added, v.n);
        int second = end();
        word(load || store ? s.name : "addi", store ? 0 : d, base, store ? d : 0, 0, true);
        relocation(second, store ? 25 : 24, here(), 0);
    }

    private void other(Statement s, String[] row) {
        String sorts = row[1].equals("-") ? "" : row[1];
        if (!are(s, sorts) || marked(s, "")) {
            throw at(12);
        }
        Value v = sorts.endsWith("t") ? target(s.operands.get(sorts.length() - 1)) : null;
        int[] part = new int[3];
        for (int k = 0; k < 3; k++) {
            String p = row[3 + k];
            part[k] = p.startsWith("x") ? Integer.parseInt(p.substring(1)) : s.operands.get(Integer.parseInt(p)).register;
        }
        starts.add(end());
        int place = end();
        word(row[2], part[0], part[1], part[2], Integer.parseInt(row[6]), v != null);
        if (v != null) {
            relocation(place, row[2].equals("jal") ? 17 : 16, v.added, v.n);
        }
    }

    private void kind(Statement s) {
        String[] shape = shape(s.name);
        String allowed = s.name.equals("lui") ? "1" : s.name.equals("auipc") ? "3" : WordsModel.isAmong(s.name, I + " jalr " + LOADS + " " + STORES) ? "24" : "";
        if (!are(s, shape[0]) || marked(s, allowed)) {
            throw at(12);
        }
        int[] part = new int[3];
        int registers = 0;
        int i = 0;
        Value reference = null;
        int mark = 0;
        for (int k = 0; k < shape[0].length(); k++) {
            char c = shape[0].charAt(k);
            Operand o = s.operands.get(k);
            if (c == 'r') {
                char p = shape[1].charAt(registers);
                registers++;
                take(s.name, p, o, part);
            } else if (c == 'P') {
                reference = target(o);
            } else if (c != 'p') {
                Value v = value(o);
                mark = o.mark;
                boolean good = mark == 0 ? plain(v) : mark == 3 ? placed(v) : mark == 4 ? placed(v) && v.n == 0 : plain(v) || placed(v);
                if (!good) {
                    throw new Fault(14, o.place);
                }
                if (mark == 0 && !mayBe(s.name, v.n)) {
                    throw new Fault(15, o.place);
                }
                i = mark == 1 ? v.n + 2048 >>> 12 : mark == 2 ? v.n << 20 >> 20 : v.n;
                if (!plain(v)) {
                    reference = v;
                    i = 0;
                }
                if (c == 'm') {
                    take(s.name, 'a', o, part);
                }
            }
        }
        starts.add(end());
        int place = end();
        word(s.name, part[0], part[1], part[2], i, reference != null);
        if (reference != null) {
            boolean store = WordsModel.isAmong(s.name, STORES);
            int number = mark == 1 ? 26 : mark == 2 ? store ? 28 : 27 : mark == 3 ? 23 : mark == 4 ? store ? 25 : 24
                : s.name.equals("jal") ? 17 : s.name.equals("c.j") || s.name.equals("c.jal") ? 45 : s.name.startsWith("c.") ? 44 : 16;
            relocation(place, number, reference.added, reference.n);
        }
    }

    private static void take(String name, char p, Operand o, int[] part) {
        if (!mayBe(name, p, o.register)) {
            throw new Fault(15, o.place);
        }
        part["dab".indexOf(p)] = o.register;
    }

    // ---- the FILE

    /** STRINGS of names; places tells where each stands. */
    private static String strings(List<String> all, List<Integer> places) {
        StringBuilder s = new StringBuilder("\0");
        for (String name : all) {
            if (s.indexOf(name + "\0") < 0) {
                s.append(name).append('\0');
            }
            places.add(s.indexOf(name + "\0"));
        }
        return s.toString();
    }

    private static void number(ByteArrayOutputStream out, long v, int width) {
        for (int k = 0; k < width; k++) {
            out.write((int) (v >> 8 * k) & 255);
        }
    }

    private static void fill(ByteArrayOutputStream out, int multiple) {
        while (out.size() % multiple != 0) {
            out.write(0);
        }
    }

    private boolean anyShort() {
        for (int s : starts) {
            if ((bytes.get(0).get(s) & 3) != 3) {
                return true;
            }
        }
        return false;
    }

    /** The FILE's bytes. */
    public byte[] file() {
        List<String> entries = new ArrayList<>(List.of(".text", ".rodata", ".data", ".bss"));
        List<int[]> rows = new ArrayList<>();
        ByteArrayOutputStream out = new ByteArrayOutputStream();
        out.writeBytes(new byte[52]);
        for (int s = 0; s < 3; s++) {
            fill(out, alignments[s]);
            rows.add(new int[] {1, new int[] {6, 2, 3}[s], 0, out.size(), bytes.get(s).size(), 0, 0, alignments[s], 0});
            for (int b : bytes.get(s)) {
                out.write(b);
            }
        }
        rows.add(new int[] {8, 3, 0, out.size(), bss, 0, 0, alignments[3], 0});
        if (!starts.isEmpty()) {
            entries.add(".starts");
            fill(out, 2);
            rows.add(new int[] {1, 0, 0, out.size(), 2 * starts.size(), 0, 0, 2, 2});
            for (int s : starts) {
                number(out, s, 2);
            }
        }
        writeRelocations(out, entries, rows);
        fill(out, 4);
        entries.addAll(List.of(".symtab", ".strtab", ".shstrtab"));
        List<String> names = new ArrayList<>();
        int locals = 1;
        for (Symbol s : inOrder()) {
            names.add(s.name);
            locals += s.bind == 0 ? 1 : 0;
        }
        rows.add(new int[] {2, 0, 0, out.size(), 16 * names.size() + 16, entries.indexOf(".strtab") + 1, locals, 4, 16});
        List<Integer> places = new ArrayList<>();
        String strings = strings(names, places);
        out.writeBytes(new byte[16]);
        for (int k = 0; k < names.size(); k++) {
            Symbol s = inOrder().get(k);
            number(out, places.get(k), 4);
            number(out, s.value, 4);
            number(out, s.size, 4);
            number(out, 16 * s.bind, 2);
            number(out, s.where == 4 ? 65521 : s.where == 5 ? 65522 : s.where + 1, 2);
        }
        rows.add(new int[] {3, 0, 0, out.size(), strings.length(), 0, 0, 1, 0});
        out.writeBytes(strings.getBytes(StandardCharsets.ISO_8859_1));
        List<Integer> entryPlaces = new ArrayList<>();
        strings = strings(entries, entryPlaces);
        rows.add(new int[] {3, 0, 0, out.size(), strings.length(), 0, 0, 1, 0});
        out.writeBytes(strings.getBytes(StandardCharsets.ISO_8859_1));
        fill(out, 4);
        int table = out.size();
        out.writeBytes(new byte[40]);
        for (int e = 0; e < entries.size(); e++) {
            number(out, entryPlaces.get(e), 4);
            for (int v : rows.get(e)) {
                number(out, v, 4);
            }
        }
        return withHeader(out.toByteArray(), table, entries.size() + 1);
    }

    private void writeRelocations(ByteArrayOutputStream out, List<String> entries, List<int[]> rows) {
        List<Symbol> order = inOrder();
        int symtab = entries.size() + 1;
        for (int s = 0; s < 3; s++) {
            int section = s;
            symtab += relocations.stream().anyMatch(r -> r[0] == section) ? 1 : 0;
        }
        for (int s = 0; s < 3; s++) {
            int n = 0;
            for (int[] r : relocations) {
                n += r[0] == s ? 1 : 0;
            }
            if (n == 0) {
                continue;
            }
            fill(out, 4);
            entries.add(".rela" + entries.get(s));
            rows.add(new int[] {4, 64, 0, out.size(), 12 * n, symtab, s + 1, 4, 12});
            for (int[] r : relocations) {
                if (r[0] == s) {
                    number(out, r[1], 4);
                    number(out, 256 * (r[3] < 0 ? 0 : order.indexOf(symbols.get(r[3])) + 1) + r[2], 4);
                    number(out, r[4], 4);
                }
            }
        }
    }

    private byte[] withHeader(byte[] file, int table, int entries) {
        ByteArrayOutputStream header = new ByteArrayOutputStream();
        header.writeBytes(new byte[] {127, 69, 76, 70, 1, 1, 1, 0, 0, 0, 0, 0, 0, 0, 0, 0});
        number(header, 1, 2);
        number(header, 243, 2);
        for (int v : new int[] {1, 0, 0, table, anyShort() ? 1 : 0}) {
            number(header, v, 4);
        }
        for (int v : new int[] {52, 0, 0, 40, entries, entries - 1}) {
            number(header, v, 2);
        }
        System.arraycopy(header.toByteArray(), 0, file, 0, 52);
        return file;
    }

    /** The symbols as they are written: local ones first. */
    public List<Symbol> inOrder() {
        List<Symbol> all = new ArrayList<>();
        for (int round = 0; round < 2; round++) {
            for (Symbol s : symbols) {
                if (s.bind == 0 == (round == 0)) {
                    all.add(s);
                }
            }
        }
        return all;
    }
}
