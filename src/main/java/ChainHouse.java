import java.util.NoSuchElementException;

/** An RV32IMC works: it assembles texts to objects, links objects to an image, and runs the image step by step. */
public final class ChainHouse {
    public static final int NONE = -1;

    private static final int UNITS = 6;
    private static final int WAITING = 20;
    private static final int TEXT_ROOM = 3000;
    private static final int FILE_ROOM = 8192;
    private static final int IMAGE_ROOM = 16384;

    private final byte[] waiting = new byte[WAITING];
    private final Bytes text = new Bytes(TEXT_ROOM);
    private final Bytes[] files = new Bytes[UNITS];
    private final Bytes image = new Bytes(IMAGE_ROOM);
    private final Bytes scratch = new Bytes(IMAGE_ROOM);
    private final Bytes out = new Bytes(80);
    private final Assembler assembler = new Assembler();
    private final ObjectFile objectFile = new ObjectFile();
    private final Linker linker = new Linker();
    private final Image loaded = new Image();
    private final Machine machine = new Machine();
    private Contents checked = new Contents();
    private Contents spare = new Contents();
    private int checkPlace = NONE;
    private int loadPlace = NONE;

    public ChainHouse() {
        for (int k = 0; k < UNITS; k++) {
            files[k] = new Bytes(FILE_ROOM);
        }
    }

    private static boolean isUnit(int unit) {
        return unit >= 0 && unit < UNITS;
    }

    /** The IMAGE or a UNIT's FILE; null when there is no such UNIT. */
    private Bytes fileOf(int k) {
        if (k == NONE) {
            return image;
        }
        return isUnit(k) ? files[k] : null;
    }

    public void feed(int a, int b, int c, int d, int e) {
        fourWait(0, a);
        fourWait(4, b);
        fourWait(8, c);
        fourWait(12, d);
        fourWait(16, e);
    }

    private void fourWait(int at, int four) {
        for (int k = 0; k < 4 && at + k < WAITING; k++) {
            waiting[at + k] = (byte) (four >> 24 - 8 * k);
        }
    }

    public int end(int n) {
        if (n < 0 || n > WAITING || n > text.room()) {
            return NONE;
        }
        for (int k = 0; k < WAITING; k++) {
            if (k < n) {
                text.add(waiting[k]);
            }
            waiting[k] = 0;
        }
        return text.length();
    }

    public int assemble(int unit) throws IndexOutOfBoundsException, IllegalArgumentException {
        if (!isUnit(unit)) {
            throw new IndexOutOfBoundsException();
        }
        assembler.source().read(text);
        int wrong = assembler.make(objectFile, scratch);
        text.clear();
        if (wrong != 0) {
            throw new IllegalArgumentException();
        }
        files[unit].copy(scratch);
        return files[unit].length();
    }

    public int fault(int what) {
        if (what == 0) {
            return assembler.fault;
        }
        return what == 1 ? assembler.place : NONE;
    }

    public int take(int unit) throws IndexOutOfBoundsException {
        if (!isUnit(unit)) {
            throw new IndexOutOfBoundsException();
        }
        files[unit].copy(text);
        text.clear();
        return files[unit].length();
    }

    public boolean extend(int k, int n, long eight) {
        Bytes file = fileOf(k);
        return file != null && file.addHighest(n, eight);
    }

    public boolean cut(int k, int n) {
        Bytes file = fileOf(k);
        if (file == null || n < 0 || n > file.length()) {
            return false;
        }
        file.shorten(n);
        return true;
    }

    public int spoil(int k, int i, int b) {
        Bytes file = fileOf(k);
        if (file == null || !file.has(i)) {
            return NONE;
        }
        int was = file.one(i);
        file.put(i, b, 1);
        return was;
    }

    public int size(int k) {
        Bytes file = fileOf(k);
        return file == null ? NONE : file.length();
    }

    public int byteAt(int k, int i) {
        Bytes file = fileOf(k);
        return file == null || !file.has(i) ? NONE : file.one(i);
    }

    public int check(int unit) throws IndexOutOfBoundsException {
        if (!isUnit(unit)) {
            throw new IndexOutOfBoundsException();
        }
        int wrong = objectFile.read(files[unit], spare);
        checkPlace = objectFile.place;
        if (wrong == 0) {
            Contents before = checked;
            checked = spare;
            spare = before;
        }
        return wrong;
    }

    public int object(int list, int k, int what) {
        if (list == 5) {
            return what == 0 ? checkPlace : NONE;
        }
        return checked.told(list, k, what);
    }

    public int link(int set, boolean shrinks) throws IllegalArgumentException, IllegalStateException {
        if (set < 1 || set > 63) {
            throw new IllegalArgumentException();
        }
        if (linker.join(files, set, shrinks, objectFile, scratch) != 0) {
            throw new IllegalStateException();
        }
        image.copy(scratch);
        return image.length();
    }

    public int linked(int what) {
        switch (what) {
            case 0: return linker.fault;
            case 1: return linker.unit;
            case 2: return linker.number;
            case 3: return linker.fixed;
            case 4: return linker.saved;
            default: return NONE;
        }
    }

    public int where(long first, long second) throws NoSuchElementException {
        int g = linker.knownGlobal(first, second);
        if (g < 0) {
            throw new NoSuchElementException();
        }
        return linker.knownPlace(g);
    }

    public int load() {
        int wrong = loaded.read(image);
        loadPlace = loaded.place;
        if (wrong == 0) {
            machine.renew(loaded);
        }
        return wrong;
    }

    public int place() {
        return loadPlace;
    }

    public int step() {
        machine.advance();
        return machine.state;
    }

    public int run(int n) {
        return n < 0 || n > 2000 ? NONE : machine.advanceUnits(n);
    }

    public int back(int n) {
        return machine.undo(n);
    }

    public boolean set(int r, int v) {
        return machine.change(r, v);
    }

    public int get(int r) {
        return r >= 0 && r <= Machine.PC ? machine.registers[r] : 0;
    }

    public int peek(int at) {
        return machine.byteOf(at);
    }

    public boolean input(int n, long eight) {
        return machine.fill(n, eight);
    }

    public boolean halt(int at, boolean on) {
        return on ? machine.addHalt(at) : machine.dropHalt(at);
    }

    public int state(int what) {
        return machine.told(what);
    }

    public int output(int k) {
        return machine.output.has(k) ? machine.output.one(k) : NONE;
    }

    public int rights(int at) {
        return machine.rightsOf(at) | (machine.isMarked(at) ? 8 : 0);
    }

    public int tell(int at) {
        if (at < 0 || at >= Machine.MEMORY || (at & 1) != 0) {
            return NONE;
        }
        machine.spell(at, out);
        return out.length();
    }

    public int letter(int k) {
        return out.has(k) ? out.one(k) : NONE;
    }

    /** A row of bytes with room for a fixed number of them. */
    private static final class Bytes {
        /** The first 16 bytes of objects and images. */
        private static final int[] IDENTITY = {127, 69, 76, 70, 1, 1, 1, 0, 0, 0, 0, 0, 0, 0, 0, 0};

        private final byte[] row;
        private int count;

        Bytes(int room) {
            row = new byte[Math.max(room, 0)];
        }

        int length() {
            return count;
        }

        int room() {
            return row.length - count;
        }

        boolean has(int i) {
            return i >= 0 && i < count;
        }

        void clear() {
            count = 0;
        }

        void shorten(int n) {
            count = Math.max(0, Math.min(n, count));
        }

        int one(int i) {
            return i >= 0 && i < count ? row[i] & 255 : 0;
        }

        /** A number of so many bytes, without sign; bytes that are not there count 0. */
        long number(int i, int width) {
            long v = 0;
            for (int k = width - 1; k >= 0; k--) {
                int j = i + k;
                v = v << 8 | (j >= 0 && j < count ? row[j] & 255 : 0);
            }
            return v;
        }

        void put(int i, long v, int width) {
            for (int k = 0; k < width; k++) {
                int j = i + k;
                if (j >= 0 && j < count) {
                    row[j] = (byte) (v >> 8 * k);
                }
            }
        }

        void add(int b) {
            if (count < row.length) {
                row[count] = (byte) b;
                count++;
            }
        }

        void addNumber(long v, int width) {
            for (int k = 0; k < width && count < row.length; k++) {
                row[count] = (byte) (v >> 8 * k);
                count++;
            }
        }

        /** Puts the n highest bytes behind; false, with nothing done, when n isn't 1 .. 8 or there is no room. */
        boolean addHighest(int n, long eight) {
            if (n < 1 || n > 8 || n > row.length - count) {
                return false;
            }
            for (int k = 0; k < n && count < row.length; k++) {
                row[count] = (byte) (eight >> 56 - 8 * k);
                count++;
            }
            return true;
        }

        void addZeros(int n) {
            for (int k = 0; k < n && count < row.length; k++) {
                row[count] = 0;
                count++;
            }
        }

        void addAll(Bytes other) {
            int n = Math.min(other.count, row.length - count);
            for (int k = 0; k < n; k++) {
                row[count] = other.row[k];
                count++;
            }
        }

        void copy(Bytes other) {
            count = 0;
            addAll(other);
        }

        /** Zeros up to a place whose rest by a power of two is that of another number. */
        void alignTo(int power, int like) {
            addZeros(like - count & power - 1);
        }

        /** Up to eight bytes, the highest first, with zeros behind. */
        long half(int from, int length) {
            long v = 0;
            for (int k = 0; k < 8; k++) {
                int j = from + k;
                v = v << 8 | (k < length && j >= 0 && j < count ? row[j] & 255 : 0);
            }
            return v;
        }

        /** Whether a name of two halves, and a 0 behind it, stand at a place. */
        boolean holdsName(int from, long high, long low) {
            for (int k = 0; k <= 16; k++) {
                int c = nameByte(high, low, k);
                if (from + k >= count || one(from + k) != c) {
                    return false;
                }
                if (c == 0) {
                    return true;
                }
            }
            return false;
        }

        /** The least place of a name and a 0; it is put behind when there is none. */
        int placeOfName(long high, long low) {
            for (int k = 0; k < count; k++) {
                if (holdsName(k, high, low)) {
                    return k;
                }
            }
            int at = count;
            for (int k = 0; k < 16 && nameByte(high, low, k) != 0; k++) {
                add(nameByte(high, low, k));
            }
            add(0);
            return at;
        }

        /** Character k of a name of two halves; 0 behind its last one. */
        static int nameByte(long high, long low, int k) {
            if (k < 0 || k >= 16) {
                return 0;
            }
            return (int) ((k < 8 ? high : low) >>> 56 - 8 * (k & 7)) & 255;
        }

        /** The number of a name among the words of a table; NONE when it is none of them. */
        static int wordAt(String table, long high, long low) {
            int word = 0;
            int k = 0;
            boolean same = true;
            for (int p = 0; p < table.length(); p++) {
                char c = table.charAt(p);
                if (c != ' ') {
                    same = same && nameByte(high, low, k) == c;
                    k++;
                    continue;
                }
                if (same && nameByte(high, low, k) == 0) {
                    return word;
                }
                word++;
                k = 0;
                same = true;
            }
            return same && nameByte(high, low, k) == 0 ? word : NONE;
        }

        /** A half of a table's word as a name. */
        static long halfOfWord(String table, int word, int half) {
            int at = 0;
            int k = 0;
            long v = 0;
            for (int p = 0; p < table.length() && at <= word; p++) {
                char c = table.charAt(p);
                if (c == ' ') {
                    at++;
                    k = 0;
                    continue;
                }
                if (at == word && k >> 3 == half) {
                    v |= (long) c << 56 - 8 * (k & 7);
                }
                k++;
            }
            return v;
        }

        void addWord(String table, int word) {
            long high = halfOfWord(table, word, 0);
            long low = halfOfWord(table, word, 1);
            for (int k = 0; k < 16 && nameByte(high, low, k) != 0; k++) {
                add(nameByte(high, low, k));
            }
        }

        void addHex(int v) {
            add('0');
            add('x');
            boolean begun = false;
            for (int k = 28; k >= 0; k -= 4) {
                int digit = v >>> k & 15;
                begun = begun || digit != 0 || k == 0;
                if (begun) {
                    add(digit < 10 ? '0' + digit : 'a' + digit - 10);
                }
            }
        }

        void addDecimal(int v) {
            long left = v < 0 ? -(long) v : v;
            if (v < 0) {
                add('-');
            }
            boolean begun = false;
            for (long unit = 1000000000L; unit > 0; unit /= 10) {
                int digit = (int) (left / unit % 10);
                begun = begun || digit != 0 || unit == 1;
                if (begun) {
                    add('0' + digit);
                }
            }
        }

        /** The bytes with which both sorts of files begin, up to the version. */
        void beginFile(int sort) {
            count = 0;
            for (int k = 0; k < IDENTITY.length; k++) {
                add(IDENTITY[k]);
            }
            addNumber(sort, 2);
            addNumber(243, 2);
            addNumber(1, 4);
        }

        /** The FAULT of these bytes times 65,536, and its PLACE; 0 without one. */
        int headFault(int sort) {
            if (count < 52) {
                return 1 << 16 | count;
            }
            for (int k = 0; k < IDENTITY.length; k++) {
                if (one(k) != IDENTITY[k]) {
                    int fault = k < 4 ? 2 : k < 7 ? k - 1 : 6;
                    return fault << 16 | k;
                }
            }
            if (number(16, 2) != sort) {
                return 7 << 16 | 16;
            }
            return number(18, 2) != 243 ? 8 << 16 | 18 : 0;
        }
    }

    /** A word of the machine, taken apart into its kind and parts; parts that the kind has not are 0. */
    private static final class Word {
        static final int ILLEGAL = -1;
        static final int LUI = 0;
        static final int AUIPC = 1;
        static final int JAL = 2;
        static final int JALR = 3;
        static final int BEQ = 4;
        static final int BGEU = 9;
        static final int LB = 10;
        static final int LW = 12;
        static final int LHU = 14;
        static final int SB = 15;
        static final int SW = 17;
        static final int ADDI = 18;
        static final int ANDI = 23;
        static final int SRAI = 26;
        static final int ADD = 27;
        static final int XOR = 32;
        static final int OR = 35;
        static final int AND = 36;
        static final int REMU = 44;
        static final int FENCE = 45;
        static final int ECALL = 46;
        static final int SHORT = 48;
        static final int C_NOP = 51;
        static final int C_JAL = 53;
        static final int C_LUI = 56;
        static final int C_J = 64;
        static final int C_BEQZ = 65;
        static final int C_BNEZ = 66;
        static final int KINDS = 75;

        static final String NAMES = "lui auipc jal jalr beq bne blt bge bltu bgeu lb lh lw lbu lhu sb sh sw addi slti sltiu xori ori andi slli srli srai add sub sll slt sltu xor srl sra or and mul mulh mulhsu mulhu div divu rem remu fence ecall ebreak c.addi4spn c.lw c.sw c.nop c.addi c.jal c.li c.addi16sp c.lui c.srli c.srai c.andi c.sub c.xor c.or c.and c.j c.beqz c.bnez c.slli c.lwsp c.jr c.mv c.ebreak c.jalr c.add c.swsp";
        static final String REGISTERS = "zero ra sp gp tp t0 t1 t2 s0 s1 a0 a1 a2 a3 a4 a5 a6 a7 s2 s3 s4 s5 s6 s7 s8 s9 s10 s11 t3 t4 t5 t6";
        private static final int SP = 2;

        /** By kinds: the bits that are no parts. */
        private static final int[] MATCH = {
            0x37, 0x17, 0x6f, 0x67, 0x63, 0x1063, 0x4063, 0x5063, 0x6063, 0x7063,
            0x03, 0x1003, 0x2003, 0x4003, 0x5003, 0x23, 0x1023, 0x2023, 0x13, 0x2013,
            0x3013, 0x4013, 0x6013, 0x7013, 0x1013, 0x5013, 0x40005013, 0x33, 0x40000033, 0x1033,
            0x2033, 0x3033, 0x4033, 0x5033, 0x40005033, 0x6033, 0x7033, 0x02000033, 0x02001033, 0x02002033,
            0x02003033, 0x02004033, 0x02005033, 0x02006033, 0x02007033, 0x0ff0000f, 0x73, 0x00100073, 0x0000, 0x4000,
            0xc000, 0x0001, 0x0001, 0x2001, 0x4001, 0x6101, 0x6001, 0x8001, 0x8401, 0x8801,
            0x8c01, 0x8c21, 0x8c41, 0x8c61, 0xa001, 0xc001, 0xe001, 0x0002, 0x4002, 0x8002,
            0x8002, 0x9002, 0x9002, 0x9002, 0xc002};
        /** By kinds: how the parts lie, a number for the tables by forms. */
        private static final int[] FORM = {
            0, 0, 1, 2, 3, 3, 3, 3, 3, 3, 2, 2, 2, 2, 2, 4, 4, 4, 2, 2, 2, 2, 2, 2, 5, 5, 5, 6, 6, 6,
            6, 6, 6, 6, 6, 6, 6, 6, 6, 6, 6, 6, 6, 6, 6, 7, 7, 7, 8, 9, 10, 11, 12, 13, 14, 15, 16, 17, 17, 18,
            19, 19, 19, 19, 13, 20, 20, 21, 22, 23, 24, 11, 23, 24, 25};
        /** By kinds: the operands' pattern. */
        private static final int[] PATTERN = {
            6, 6, 7, 3, 5, 5, 5, 5, 5, 5, 3, 3, 3, 3, 3, 4, 4, 4, 2, 2, 2, 2, 2, 2, 2, 2, 2, 1, 1, 1,
            1, 1, 1, 1, 1, 1, 1, 1, 1, 1, 1, 1, 1, 1, 1, 0, 0, 0, 15, 3, 4, 0, 12, 8, 12, 16, 6, 12, 12, 12,
            10, 10, 10, 10, 8, 9, 9, 12, 13, 11, 10, 0, 11, 10, 14};
        /** By forms: the bits that are no parts, marked. */
        private static final int[] MASK = {
            0x7f, 0x7f, 0x707f, 0x707f, 0x707f, 0xfe00707f, 0xfe00707f, 0xffffffff, 0xe003, 0xe003, 0xe003, 0xffff, 0xe003,
            0xe003, 0xe003, 0xef83, 0xe003, 0xfc03, 0xec03, 0xfc63, 0xe003, 0xf003, 0xe003, 0xf07f, 0xf003, 0xe003};
        /** By forms: where a register lies; 32 more when it can't be 0, 64 more for a short one; -1 for none. */
        private static final int[] D_AT = {
            7, 7, 7, -1, -1, 7, 7, -1, 66, 66, -1, -1, 39, -1, 39, -1, 39, 71, 71, 71, -1, 39, 39, -1, 39, -1};
        private static final int[] A_AT = {
            -1, -1, 15, 15, 15, 15, 15, -1, -1, 71, 71, -1, -1, -1, -1, -1, -1, -1, -1, -1, 71, -1, -1, 39, -1, -1};
        private static final int[] B_AT = {
            -1, -1, -1, 20, 20, -1, 20, -1, -1, -1, 66, -1, -1, -1, -1, -1, -1, -1, -1, 66, -1, -1, -1, -1, 34, 2};
        /** By forms: the least and the greatest immediate, and the power of two of which it is a multiple. */
        private static final int[] LOW = {
            0, -1048576, -2048, -4096, -2048, 0, 0, 0, 4, 0, 0, 0, -32, -2048, -32, -512, -32, 1, -32, 0, -256, 1, 0, 0, 0, 0};
        private static final int[] HIGH = {
            0xfffff, 1048574, 2047, 4094, 2047, 31, 0, 0, 1020, 124, 124, 0, 31, 2046, 31, 496, 31, 31, 31, 0, 254, 31, 252, 0, 0, 252};
        private static final int[] STEP = {
            1, 2, 1, 2, 1, 1, 1, 1, 4, 4, 4, 1, 1, 2, 1, 16, 1, 1, 1, 1, 2, 1, 4, 1, 1, 4};
        private static final int FORM_C_ADDI = 12;
        private static final int FORM_C_ADDI16SP = 15;
        private static final int FORM_C_LUI = 16;
        /** By forms, and one more: where its runs begin, each three numbers: the lowest bit in the immediate, that in the word, how many. */
        private static final int[] RUN_FROM = {
            0, 1, 5, 6, 10, 12, 13, 13, 13, 17, 20, 23, 23, 25, 33, 35, 40, 42, 43, 45, 45, 50, 51, 54, 54, 54, 56};
        private static final int[] RUNS = {
            0, 12, 20,
            20, 31, 1, 1, 21, 10, 11, 20, 1, 12, 12, 8,
            0, 20, 12,
            12, 31, 1, 5, 25, 6, 1, 8, 4, 11, 7, 1,
            5, 25, 7, 0, 7, 5,
            0, 20, 5,
            4, 11, 2, 6, 7, 4, 2, 6, 1, 3, 5, 1,
            3, 10, 3, 2, 6, 1, 6, 5, 1,
            3, 10, 3, 2, 6, 1, 6, 5, 1,
            5, 12, 1, 0, 2, 5,
            11, 12, 1, 4, 11, 1, 8, 9, 2, 10, 8, 1, 6, 7, 1, 7, 6, 1, 1, 3, 3, 5, 2, 1,
            5, 12, 1, 0, 2, 5,
            9, 12, 1, 4, 6, 1, 6, 5, 1, 7, 3, 2, 5, 2, 1,
            5, 12, 1, 0, 2, 5,
            0, 2, 5,
            5, 12, 1, 0, 2, 5,
            8, 12, 1, 3, 10, 2, 6, 5, 2, 1, 3, 2, 5, 2, 1,
            0, 2, 5,
            5, 12, 1, 2, 4, 3, 6, 2, 2,
            2, 9, 4, 6, 7, 2};
        /** By short kinds: the long kind for which it stands, and d and a of that (OWN: its own; AS_D: as d). */
        private static final int[] LONG = {
            18, 12, 17, 18, 18, 2, 18, 18, 0, 25, 26, 23, 28, 32, 35, 36, 2, 4, 5, 24, 12, 3, 27, 47, 3, 27, 17};
        private static final int[] LONG_D = {
            -1, -1, -1, 0, -1, 1, -1, 2, -1, -1, -1, -1, -1, -1, -1, -1, 0, -1, -1, -1, -1, 0, -1, -1, 1, -1, -1};
        private static final int[] LONG_A = {
            2, -1, -1, 0, -2, -1, 0, 2, -1, -2, -2, -2, -2, -2, -2, -2, -1, -1, -1, -2, 2, -1, 0, -1, -1, -2, 2};
        private static final int OWN = -1;
        private static final int AS_D = -2;

        int kind = ILLEGAL;
        int d;
        int a;
        int b;
        int i;

        /** Takes a word apart; a short one counts with its lowest 16 bits alone. */
        void read(int bits) {
            boolean wide = (bits & 3) == 3;
            int w = wide ? bits : bits & 0xffff;
            int last = wide ? SHORT : KINDS;
            for (int k = wide ? 0 : SHORT; k < last; k++) {
                int form = FORM[k];
                if ((w & MASK[form]) == MATCH[k]) {
                    d = register(w, D_AT[form]);
                    a = register(w, A_AT[form]);
                    b = register(w, B_AT[form]);
                    i = immediate(w, form);
                    if (wide || mayHave(k, 'd', d) && mayHave(k, 'a', a) && mayHave(k, 'b', b) && mayHave(k, i)) {
                        kind = k;
                        return;
                    }
                }
            }
            kind = ILLEGAL;
        }

        private static int register(int w, int at) {
            if (at < 0) {
                return 0;
            }
            return at >= 64 ? 8 + (w >>> (at & 31) & 7) : w >>> (at & 31) & 31;
        }

        private static int immediate(int w, int form) {
            int v = 0;
            for (int r = RUN_FROM[form]; r < RUN_FROM[form + 1]; r++) {
                int part = w >>> RUNS[3 * r + 1] & (1 << RUNS[3 * r + 2]) - 1;
                v |= part << RUNS[3 * r];
            }
            if (LOW[form] < 0 && v >= -LOW[form]) {
                v += 2 * LOW[form];
            }
            return form == FORM_C_LUI ? v & 0xfffff : v;
        }

        /** Whether a kind, if it has this part (d, a or b), may have this register there. */
        static boolean mayHave(int kind, char part, int r) {
            if (kind < 0 || kind >= KINDS) {
                return false;
            }
            int form = FORM[kind];
            int at = part == 'd' ? D_AT[form] : part == 'a' ? A_AT[form] : B_AT[form];
            if (at < 0) {
                return true;
            }
            int least = at >= 64 ? 8 : at >= 32 ? 1 : 0;
            return r >= least && r <= (at >= 64 ? 15 : 31) && !(form == FORM_C_LUI && r == SP);
        }

        /** Whether a kind may have this immediate. */
        static boolean mayHave(int kind, long i) {
            if (kind < 0 || kind >= KINDS) {
                return false;
            }
            int form = FORM[kind];
            long v = i;
            if (form == FORM_C_LUI) {
                if (i < 0 || i > 0xfffff) {
                    return false;
                }
                v = i >= 0x80000 ? i - 0x100000 : i;
            }
            boolean notZero = form == FORM_C_ADDI || form == FORM_C_ADDI16SP || form == FORM_C_LUI;
            return v >= LOW[form] && v <= HIGH[form] && (v & STEP[form] - 1) == 0 && !(notZero && v == 0);
        }

        /** The word of a kind with these parts. */
        static int make(int kind, int d, int a, int b, int i) {
            if (kind < 0 || kind >= KINDS) {
                return 0;
            }
            int form = FORM[kind];
            int w = MATCH[kind];
            w |= D_AT[form] < 0 ? 0 : (d & (D_AT[form] >= 64 ? 7 : 31)) << (D_AT[form] & 31);
            w |= A_AT[form] < 0 ? 0 : (a & (A_AT[form] >= 64 ? 7 : 31)) << (A_AT[form] & 31);
            w |= B_AT[form] < 0 ? 0 : (b & (B_AT[form] >= 64 ? 7 : 31)) << (B_AT[form] & 31);
            for (int r = RUN_FROM[form]; r < RUN_FROM[form + 1]; r++) {
                int part = i >>> RUNS[3 * r] & (1 << RUNS[3 * r + 2]) - 1;
                w |= part << RUNS[3 * r + 1];
            }
            return w;
        }

        /** Becomes the long word for which a short one stands. */
        void lengthen() {
            if (kind < SHORT || kind >= KINDS) {
                return;
            }
            int k = kind - SHORT;
            if (LONG_D[k] != OWN) {
                d = LONG_D[k];
            }
            if (LONG_A[k] != OWN) {
                a = LONG_A[k] == AS_D ? d : LONG_A[k];
            }
            kind = LONG[k];
        }

        /** The SHORTER word of a long one; NONE without one. */
        static int shorter(int kind, int d, int a, int b, int i) {
            int w = standIn(kind, d, a, b, i);
            if (w != NONE) {
                return w;
            }
            if ((kind == ADD || kind == XOR || kind == OR || kind == AND) && d == b) {
                return standIn(kind, d, b, a, i);
            }
            if (kind == ADDI && i == 0 && d != 0 && a != 0) {
                return standIn(ADD, d, 0, a, 0);
            }
            return NONE;
        }

        /** The word of the least short kind that stands for a long one with these parts; NONE without one. */
        private static int standIn(int kind, int d, int a, int b, int i) {
            for (int k = 0; k < LONG.length; k++) {
                int s = SHORT + k;
                boolean same = LONG[k] == kind && (LONG_D[k] == OWN || d == LONG_D[k])
                    && (LONG_A[k] == OWN || a == (LONG_A[k] == AS_D ? d : LONG_A[k])) && (b == 0 || B_AT[FORM[s]] >= 0);
                if (same && mayHave(s, 'd', d) && mayHave(s, 'a', a) && mayHave(s, 'b', b) && mayHave(s, i)) {
                    return make(s, d, a, b, i);
                }
            }
            return NONE;
        }

        /** The operands of a kind: registers d, a, b; p: sp; numbers I, P, X; m, q: a MEMORY with a, with sp. */
        static String shape(int kind) {
            if (kind < 0 || kind >= KINDS) {
                return "";
            }
            switch (PATTERN[kind]) {
                case 1: return "dab";
                case 2: return "daI";
                case 3: return "dm";
                case 4: return "bm";
                case 5: return "abP";
                case 6: return "dX";
                case 7: return "dP";
                case 8: return "P";
                case 9: return "aP";
                case 10: return "db";
                case 11: return "a";
                case 12: return "dI";
                case 13: return "dq";
                case 14: return "bq";
                case 15: return "dpI";
                case 16: return "pI";
                default: return "";
            }
        }

        /** Puts the TEXT of the word that was read, which stands at a place, into a row. */
        void spell(int at, int bits, Bytes row) {
            row.clear();
            if (kind == ILLEGAL) {
                boolean wide = (bits & 3) == 3;
                row.addWord(".half .word", wide ? 1 : 0);
                row.add(' ');
                row.addHex(wide ? bits : bits & 0xffff);
                return;
            }
            row.addWord(NAMES, kind);
            String shape = shape(kind);
            for (int k = 0; k < shape.length(); k++) {
                if (k > 0) {
                    row.add(',');
                }
                row.add(' ');
                spellOperand(shape.charAt(k), at, row);
            }
        }

        private void spellOperand(char c, int at, Bytes row) {
            switch (c) {
                case 'd': row.addWord(REGISTERS, d); break;
                case 'a': row.addWord(REGISTERS, a); break;
                case 'b': row.addWord(REGISTERS, b); break;
                case 'p': row.addWord(REGISTERS, SP); break;
                case 'P': row.addHex(at + i); break;
                case 'X': row.addHex(i); break;
                default: row.addDecimal(i); break;
            }
            if (c == 'm' || c == 'q') {
                row.add('(');
                row.addWord(REGISTERS, c == 'm' ? a : SP);
                row.add(')');
            }
        }
    }

    /** A TEXT that was read: its STATEMENTS, operands, ITEMS and names, or its first FAULT. */
    private static final class Source {
        static final int STATEMENTS = 400;
        static final int OPERANDS = 800;
        static final int ITEMS = 2000;
        static final int ITEMS_OF_ONE = 60;
        static final int NAMES = 150;
        private static final int WORDS = 3002;
        private static final int DEEPEST = 20;

        /** Rows of words, statements, operands and items. */
        static final int SORT = 0;
        static final int PLACE = 1;
        static final int VALUE = 2;
        static final int FIRST = 3;
        static final int COUNT = 4;
        static final int REGISTER = 5;
        static final int MARK = 6;
        private static final int LENGTH = 3;
        static final int ITEM_VALUE = 1;

        /** Sorts of words. */
        private static final int LINE_END = 0;
        private static final int NAME = 1;
        private static final int NUMBER = 2;
        private static final int LOCAL = 3;
        private static final int CHARACTER = 4;
        private static final int QUOTED = 5;
        private static final int SIGN = 6;
        private static final int WRONG = 7;
        /** What names have for a value that are no REGISTER. */
        private static final int PLAIN_NAME = -1;
        private static final int HERE_NAME = -2;

        /** Sorts of statements. */
        static final int LABEL = 0;
        static final int DIGIT_LABEL = 1;
        static final int WORD = 2;
        /** Sorts of operands. */
        static final int IS_REGISTER = 0;
        static final int IS_STRING = 1;
        static final int IS_MEMORY = 2;
        static final int IS_EXPRESSION = 3;
        /** Sorts of items; operators have numbers from NEGATE on. */
        static final int OF_NUMBER = 0;
        static final int OF_NAME = 1;
        static final int OF_LOCAL = 2;
        static final int OF_HERE = 3;
        static final int NEGATE = 10;
        static final int TURN = 11;
        static final int PLUS = 12;
        static final int MINUS = 13;
        static final int TIMES = 14;
        static final int OVER = 15;
        static final int REST = 16;
        static final int UP = 17;
        static final int DOWN = 18;
        static final int AND = 19;
        static final int XOR = 20;
        static final int OR = 21;
        private static final int PARENTHESIS = 1;

        private static final String MARKS = "hi lo pcrel_hi pcrel_lo";
        private static final String NUMBERED = "x0 x1 x2 x3 x4 x5 x6 x7 x8 x9 x10 x11 x12 x13 x14 x15 x16 x17 x18 x19 x20 x21 x22 x23 x24 x25 x26 x27 x28 x29 x30 x31 fp";
        private static final int FP = 8;

        final long[][] names = new long[2][NAMES];
        final int[][] statements = new int[5][STATEMENTS];
        final int[][] operands = new int[7][OPERANDS];
        final int[][] items = new int[2][ITEMS];
        int nameCount;
        int statementCount;
        int operandCount;
        int fault;
        int place;
        Bytes text = new Bytes(0);
        private int itemCount;
        private final int[][] words = new int[4][WORDS];
        private int wordCount;
        private int at;
        private final int[] pending = new int[ITEMS_OF_ONE + 2 * DEEPEST + 8];
        private int pendingCount;
        private int depth;
        private int counted;

        /** Reads a TEXT; the fault is 0 when it has none. */
        void read(Bytes given) {
            text = given;
            fault = 0;
            place = NONE;
            nameCount = 0;
            statementCount = 0;
            operandCount = 0;
            itemCount = 0;
            wordCount = 0;
            int from = 0;
            for (int k = 0; k < WORDS && from < text.length(); k++) {
                from = readWord(from);
            }
            addWord(LINE_END, text.length(), 0, 0);
            at = 0;
            for (int k = 0; k < WORDS && at < wordCount && fault == 0; k++) {
                if (readLabels()) {
                    readOperands();
                }
            }
        }

        private void addWord(int sort, int from, int length, int value) {
            if (wordCount < WORDS) {
                words[SORT][wordCount] = sort;
                words[PLACE][wordCount] = from;
                words[LENGTH][wordCount] = length;
                words[VALUE][wordCount] = value;
                wordCount++;
            }
        }

        /** A word that is none ends the words: no reading goes beyond it. */
        private int wrongWord(int number, int from) {
            addWord(WRONG, from, 0, number);
            return text.length();
        }

        private static boolean isDigit(int c) {
            return c >= '0' && c <= '9';
        }

        private static boolean beginsName(int c) {
            return c >= 'a' && c <= 'z' || c >= 'A' && c <= 'Z' || c == '_' || c == '.';
        }

        private static boolean isOfName(int c) {
            return beginsName(c) || isDigit(c) || c == '$';
        }

        /** Reads the word, blank or comment at a place: where the next one begins. */
        private int readWord(int from) {
            int c = text.one(from);
            if (c == ' ' || c == 9) {
                return from + 1;
            }
            if (c == 10) {
                addWord(LINE_END, from, 1, 0);
                return from + 1;
            }
            if (c == '#') {
                return passComment(from);
            }
            if (beginsName(c)) {
                return readName(from);
            }
            if (isDigit(c)) {
                return readNumber(from);
            }
            if (c == '\'' || c == '"') {
                return readQuoted(from, c);
            }
            return readSign(from, c);
        }

        private int passComment(int from) {
            for (int k = from + 1; k < text.length(); k++) {
                int c = text.one(k);
                if (c == 10) {
                    return k;
                }
                if (c != 9 && (c < 32 || c > 126)) {
                    return wrongWord(1, k);
                }
            }
            return text.length();
        }

        private int readName(int from) {
            int to = from + 1;
            while (to < text.length() && isOfName(text.one(to))) {
                to++;
            }
            int length = to - from;
            if (length > 16) {
                return wrongWord(2, from);
            }
            if (length == 1 && text.one(from) == '.') {
                addWord(NAME, from, 1, HERE_NAME);
                return to;
            }
            addWord(NAME, from, length, registerOf(text.half(from, length), text.half(from + 8, length - 8)));
            return to;
        }

        private static int registerOf(long high, long low) {
            int r = Bytes.wordAt(Word.REGISTERS, high, low);
            if (r == NONE) {
                r = Bytes.wordAt(NUMBERED, high, low);
            }
            if (r == NONE) {
                return PLAIN_NAME;
            }
            return r > 31 ? FP : r;
        }

        private static int digitOf(int c) {
            if (isDigit(c)) {
                return c - '0';
            }
            if (c >= 'a' && c <= 'f') {
                return c - 'a' + 10;
            }
            return c >= 'A' && c <= 'F' ? c - 'A' + 10 : 99;
        }

        private int readNumber(int from) {
            boolean zero = text.one(from) == '0';
            int next = text.one(from + 1);
            int base = 10;
            int begin = from;
            if (zero && next == 'x') {
                base = 16;
                begin = from + 2;
            } else if (zero && next == 'b' && digitOf(text.one(from + 2)) < 2) {
                base = 2;
                begin = from + 2;
            } else if ((next == 'b' || next == 'f') && !isOfName(text.one(from + 2))) {
                addWord(LOCAL, from, 2, 2 * (text.one(from) - '0') + (next == 'f' ? 1 : 0));
                return from + 2;
            }
            long v = 0;
            int to = begin;
            while (to < text.length() && digitOf(text.one(to)) < base) {
                v = Math.min(v * base + digitOf(text.one(to)), 1L << 32);
                to++;
            }
            if (to == begin || v >> 32 != 0) {
                return wrongWord(3, from);
            }
            addWord(NUMBER, from, to - from, (int) v);
            return to;
        }

        /** What a byte behind \ stands for; NONE when it can't be there. */
        private static int escaped(int c) {
            switch (c) {
                case 'n': return 10;
                case 't': return 9;
                case '0': return 0;
                case '\\': return '\\';
                case '\'': return '\'';
                case '"': return '"';
                default: return NONE;
            }
        }

        /** The byte told at a place within quotes; NONE when it can't be there, or is the quote. */
        int byteWithin(int from, int quote) {
            int c = text.one(from);
            if (c == '\\') {
                return escaped(text.one(from + 1));
            }
            return c >= 32 && c <= 126 && c != quote ? c : NONE;
        }

        private int readQuoted(int from, int quote) {
            int to = from + 1;
            int value = NONE;
            while (to < text.length() && byteWithin(to, quote) != NONE) {
                value = byteWithin(to, quote);
                to += text.one(to) == '\\' ? 2 : 1;
                if (quote == '\'') {
                    break;
                }
            }
            if (text.one(to) != quote || quote == '\'' && value == NONE) {
                return wrongWord(4, from);
            }
            addWord(quote == '\'' ? CHARACTER : QUOTED, from, to + 1 - from, value);
            return to + 1;
        }

        private int readSign(int from, int c) {
            switch (c) {
                case ',': case '(': case ')': case ':': case '+': case '-': case '*': case '/':
                case '%': case '&': case '|': case '^': case '~':
                    addWord(SIGN, from, 1, c);
                    return from + 1;
                default:
                    break;
            }
            if ((c == '<' || c == '>') && text.one(from + 1) == c) {
                addWord(SIGN, from, 2, c);
                return from + 2;
            }
            return wrongWord(1, from);
        }

        private boolean fail(int number, int where) {
            if (fault == 0) {
                fault = number;
                place = where;
            }
            return false;
        }

        private int sortAt(int k) {
            return k >= 0 && k < wordCount ? words[SORT][k] : LINE_END;
        }

        private int valueAt(int k) {
            return k >= 0 && k < wordCount ? words[VALUE][k] : 0;
        }

        private int placeAt(int k) {
            return k >= 0 && k < wordCount ? words[PLACE][k] : 0;
        }

        private int lengthAt(int k) {
            return k >= 0 && k < wordCount ? words[LENGTH][k] : 0;
        }

        private boolean isSign(int k, int sign) {
            return sortAt(k) == SIGN && valueAt(k) == sign;
        }

        private boolean isRegister(int k) {
            return sortAt(k) == NAME && valueAt(k) >= 0;
        }

        /** The word that is looked at can't stand there (or is none). */
        private boolean refuse() {
            return fail(sortAt(at) == WRONG ? valueAt(at) : 5, placeAt(at));
        }

        private boolean passSign(int sign) {
            if (!isSign(at, sign)) {
                return refuse();
            }
            at++;
            return true;
        }

        /** The number of the NAME that is looked at; NONE, a FAULT, when there are too many. */
        private int nameNumber() {
            int from = placeAt(at);
            long high = text.half(from, lengthAt(at));
            long low = text.half(from + 8, lengthAt(at) - 8);
            for (int k = 0; k < nameCount; k++) {
                if (names[0][k] == high && names[1][k] == low) {
                    return k;
                }
            }
            if (nameCount >= NAMES) {
                fail(8, from);
                return NONE;
            }
            names[0][nameCount] = high;
            names[1][nameCount] = low;
            nameCount++;
            return nameCount - 1;
        }

        /** Reads a line's LABELS; true when a WORD is behind them, else the line has ended. */
        private boolean readLabels() {
            for (int k = 0; k < WORDS; k++) {
                int sort = sortAt(at);
                if (sort == LINE_END) {
                    at++;
                    return false;
                }
                boolean digit = sort == NUMBER && lengthAt(at) == 1;
                if (!digit && (sort != NAME || valueAt(at) == HERE_NAME)) {
                    return refuse();
                }
                boolean label = digit || valueAt(at) == PLAIN_NAME && isSign(at + 1, ':');
                if (!addStatement(digit ? DIGIT_LABEL : label ? LABEL : WORD)) {
                    return false;
                }
                at++;
                if (!label || !passSign(':')) {
                    return !label;
                }
            }
            return false;
        }

        private boolean addStatement(int sort) {
            if (statementCount >= STATEMENTS) {
                return fail(8, placeAt(at));
            }
            int value = sort == DIGIT_LABEL ? valueAt(at) : nameNumber();
            statements[SORT][statementCount] = sort;
            statements[PLACE][statementCount] = placeAt(at);
            statements[VALUE][statementCount] = value;
            statements[FIRST][statementCount] = operandCount;
            statements[COUNT][statementCount] = 0;
            statementCount++;
            return fault == 0;
        }

        private void readOperands() {
            for (int k = 0; k < WORDS && (k > 0 || sortAt(at) != LINE_END); k++) {
                if (!readOperand()) {
                    return;
                }
                if (statementCount > 0) {
                    statements[COUNT][statementCount - 1]++;
                }
                if (sortAt(at) == LINE_END || !passSign(',')) {
                    return;
                }
            }
        }

        private boolean mayBeginOperand() {
            int sort = sortAt(at);
            if (sort != SIGN) {
                return sort != LINE_END && sort != WRONG;
            }
            int c = valueAt(at);
            return c == '(' || c == '-' || c == '~' || c == '%';
        }

        private boolean readOperand() {
            if (!mayBeginOperand()) {
                return refuse();
            }
            if (operandCount >= OPERANDS) {
                return fail(8, placeAt(at));
            }
            int o = operandCount;
            operandCount++;
            beginOperand(o);
            if (operands[SORT][o] != IS_EXPRESSION) {
                at++;
                return true;
            }
            boolean good;
            if (isSign(at, '%')) {
                good = readMark(o) && readExpression(o) && passSign(')');
            } else {
                good = isSign(at, '(') && isRegister(at + 1) ? addZero(o) : readExpression(o);
            }
            operands[COUNT][o] = itemCount - operands[FIRST][o];
            return good && (!isSign(at, '(') || readBase(o));
        }

        private void beginOperand(int o) {
            boolean quoted = sortAt(at) == QUOTED;
            operands[SORT][o] = quoted ? IS_STRING : isRegister(at) ? IS_REGISTER : IS_EXPRESSION;
            operands[PLACE][o] = placeAt(at);
            operands[VALUE][o] = 0;
            operands[FIRST][o] = quoted ? placeAt(at) + 1 : itemCount;
            operands[COUNT][o] = quoted ? lengthAt(at) - 2 : 0;
            operands[REGISTER][o] = isRegister(at) ? valueAt(at) : 0;
            operands[MARK][o] = 0;
        }

        /** The number 0 of a MEMORY without an EXPRESSION. */
        private boolean addZero(int o) {
            counted = 0;
            if (!countItem(o)) {
                return false;
            }
            addItem(OF_NUMBER, 0);
            return true;
        }

        /** The REGISTER in parentheses that makes an operand a MEMORY. */
        private boolean readBase(int o) {
            operands[SORT][o] = IS_MEMORY;
            at++;
            if (!isRegister(at)) {
                return refuse();
            }
            operands[REGISTER][o] = valueAt(at);
            at++;
            return passSign(')');
        }

        private boolean readMark(int o) {
            at++;
            if (sortAt(at) != NAME) {
                return refuse();
            }
            int from = placeAt(at);
            int mark = Bytes.wordAt(MARKS, text.half(from, lengthAt(at)), text.half(from + 8, lengthAt(at) - 8));
            if (mark == NONE) {
                return fail(6, from);
            }
            operands[MARK][o] = mark + 1;
            at++;
            return passSign('(');
        }

        private boolean countItem(int o) {
            if (counted >= ITEMS_OF_ONE || operands[FIRST][o] + counted >= ITEMS) {
                return fail(8, placeAt(at));
            }
            counted++;
            return true;
        }

        private void addItem(int sort, int value) {
            if (itemCount < ITEMS) {
                items[SORT][itemCount] = sort;
                items[ITEM_VALUE][itemCount] = value;
                itemCount++;
            }
        }

        /** Reads an EXPRESSION; operators wait until what they work on is there. */
        private boolean readExpression(int o) {
            pendingCount = 0;
            depth = 1;
            counted = 0;
            boolean wanted = true;
            for (int k = 0; k < WORDS; k++) {
                if (wanted) {
                    boolean ahead = isSign(at, '-') || isSign(at, '~') || isSign(at, '(');
                    if (!(ahead ? readAhead(o) : readValue(o))) {
                        return false;
                    }
                    wanted = ahead;
                } else if (operatorAt(at) != NONE) {
                    if (!readOperator(o)) {
                        return false;
                    }
                    wanted = true;
                } else if (!isSign(at, ')') || !closeParenthesis()) {
                    return finishExpression();
                }
            }
            return false;
        }

        private boolean tooDeep() {
            return depth > DEEPEST && !fail(7, placeAt(at));
        }

        private void hold(int sort) {
            if (pendingCount < pending.length) {
                pending[pendingCount] = sort;
                pendingCount++;
            }
        }

        private int lastPending() {
            return pendingCount > 0 ? pending[pendingCount - 1] : NONE;
        }

        private boolean readAhead(int o) {
            if (tooDeep()) {
                return false;
            }
            if (isSign(at, '(')) {
                hold(PARENTHESIS);
            } else {
                if (!countItem(o)) {
                    return false;
                }
                hold(isSign(at, '-') ? NEGATE : TURN);
            }
            depth++;
            at++;
            return true;
        }

        private boolean readValue(int o) {
            int sort = sortAt(at);
            if (sort == LINE_END || sort == WRONG || sort == SIGN || sort == QUOTED) {
                return refuse();
            }
            if (isRegister(at)) {
                return fail(6, placeAt(at));
            }
            if (tooDeep() || !countItem(o)) {
                return false;
            }
            if (sort == NAME && valueAt(at) == PLAIN_NAME) {
                addItem(OF_NAME, nameNumber());
            } else if (sort == NAME) {
                addItem(OF_HERE, 0);
            } else {
                addItem(sort == LOCAL ? OF_LOCAL : OF_NUMBER, valueAt(at));
            }
            at++;
            finishAhead();
            return fault == 0;
        }

        /** The - and ~ ahead of what has come now are worked out. */
        private void finishAhead() {
            while (pendingCount > 0 && (lastPending() == NEGATE || lastPending() == TURN)) {
                addItem(lastPending(), 0);
                pendingCount--;
                depth--;
            }
        }

        private int operatorAt(int k) {
            if (sortAt(k) != SIGN) {
                return NONE;
            }
            switch (valueAt(k)) {
                case '+': return PLUS;
                case '-': return MINUS;
                case '*': return TIMES;
                case '/': return OVER;
                case '%': return REST;
                case '<': return UP;
                case '>': return DOWN;
                case '&': return AND;
                case '^': return XOR;
                case '|': return OR;
                default: return NONE;
            }
        }

        /** How strongly an operator between two binds. */
        private static int strength(int sort) {
            if (sort < PLUS) {
                return 0;
            }
            if (sort <= MINUS) {
                return 5;
            }
            if (sort <= REST) {
                return 6;
            }
            return sort <= DOWN ? 4 : AND + 3 - sort;
        }

        private boolean readOperator(int o) {
            if (!countItem(o)) {
                return false;
            }
            int sort = operatorAt(at);
            while (pendingCount > 0 && strength(lastPending()) >= strength(sort)) {
                addItem(lastPending(), 0);
                pendingCount--;
            }
            hold(sort);
            at++;
            return true;
        }

        /** Ends what lies in parentheses; false when none is open. */
        private boolean closeParenthesis() {
            boolean open = false;
            for (int k = 0; k < pendingCount; k++) {
                open = open || pending[k] == PARENTHESIS;
            }
            if (!open) {
                return false;
            }
            while (pendingCount > 0 && lastPending() != PARENTHESIS) {
                addItem(lastPending(), 0);
                pendingCount--;
            }
            pendingCount = Math.max(0, pendingCount - 1);
            depth--;
            at++;
            finishAhead();
            return true;
        }

        private boolean finishExpression() {
            while (pendingCount > 0) {
                if (lastPending() == PARENTHESIS) {
                    return refuse();
                }
                addItem(lastPending(), 0);
                pendingCount--;
            }
            return true;
        }
    }

    /** What an object tells: sections, STARTS, symbols, relocations. */
    private static final class Contents {
        static final int SECTIONS = 4;
        static final int TEXT = 0;
        static final int BSS = 3;
        static final int SECTION_ROOM = 2048;
        static final int BSS_ROOM = 4096;
        static final int STARTS = 1024;
        static final int SYMBOLS = 100;
        static final int RELOCATIONS = 300;

        /** Rows of symbols. */
        static final int WHERE = 0;
        static final int VALUE = 1;
        static final int EXTENT = 2;
        static final int BIND = 3;
        static final int TYPE = 4;
        /** Where symbols are that are in no section. */
        static final int NOWHERE = -1;
        static final int ABSOLUTE = 4;
        static final int COMMON = 5;
        static final int GLOBAL = 1;
        static final int WEAK = 2;
        /** Rows of relocations. */
        static final int SECTION = 0;
        static final int PLACE = 1;
        static final int KIND = 2;
        static final int SYMBOL = 3;
        static final int ADDEND = 4;
        static final int ALIGNED = 43;
        static final int EASED = 51;

        final Bytes[] bytes = new Bytes[BSS];
        int bss;
        final int[] alignment = new int[SECTIONS];
        final int[] starts = new int[STARTS];
        int startCount;
        final long[][] names = new long[2][SYMBOLS];
        final int[][] symbols = new int[5][SYMBOLS];
        int symbolCount;
        final int[][] relocations = new int[5][RELOCATIONS];
        int relocationCount;

        Contents() {
            for (int k = 0; k < BSS; k++) {
                bytes[k] = new Bytes(SECTION_ROOM);
                alignment[k] = 1;
            }
            alignment[BSS] = 1;
        }

        void clear() {
            for (int k = 0; k < BSS; k++) {
                bytes[k].clear();
                alignment[k] = 1;
            }
            alignment[BSS] = 1;
            bss = 0;
            startCount = 0;
            symbolCount = 0;
            relocationCount = 0;
        }

        /** How many bytes a section has. */
        int extent(int section) {
            if (section == BSS) {
                return bss;
            }
            return section >= 0 && section < BSS ? bytes[section].length() : 0;
        }

        /** How many bytes from its place on a relocation is about; NONE when its kind is none. */
        static int width(int kind, int addend) {
            switch (kind) {
                case 33: case 37: return 1;
                case 34: case 38: case 44: case 45: return 2;
                case 1: case 16: case 17: case 23: case 24: case 25: case 26: case 27: case 28: case 35: case 39: return 4;
                case 19: return 8;
                case EASED: return 0;
                case ALIGNED: return addend;
                default: return NONE;
            }
        }

        /** Whether relocations of a kind may be in other sections than .text. */
        static boolean isOfData(int kind) {
            return kind == 1 || kind >= 33 && kind <= 35 || kind >= 37 && kind <= 39;
        }

        static boolean hasSymbol(int kind) {
            return kind != ALIGNED && kind != EASED;
        }

        /** Adds a symbol that is nowhere; NONE when there is no room. */
        int addSymbol(long high, long low) {
            if (symbolCount >= SYMBOLS) {
                return NONE;
            }
            names[0][symbolCount] = high;
            names[1][symbolCount] = low;
            symbols[WHERE][symbolCount] = NOWHERE;
            symbols[VALUE][symbolCount] = 0;
            symbols[EXTENT][symbolCount] = 0;
            symbols[BIND][symbolCount] = 0;
            symbols[TYPE][symbolCount] = 0;
            symbolCount++;
            return symbolCount - 1;
        }

        boolean addRelocation(int section, int place, int kind, int symbol, int addend) {
            if (relocationCount >= RELOCATIONS) {
                return false;
            }
            relocations[SECTION][relocationCount] = section;
            relocations[PLACE][relocationCount] = place;
            relocations[KIND][relocationCount] = kind;
            relocations[SYMBOL][relocationCount] = symbol;
            relocations[ADDEND][relocationCount] = addend;
            relocationCount++;
            return true;
        }

        void addStart(int at) {
            if (startCount < STARTS) {
                starts[startCount] = at;
                startCount++;
            }
        }

        int shortStarts() {
            int n = 0;
            for (int k = 0; k < startCount; k++) {
                n += (bytes[TEXT].one(starts[k]) & 3) != 3 ? 1 : 0;
            }
            return n;
        }

        boolean isLocal(int symbol) {
            return symbol >= 0 && symbol < symbolCount && symbols[BIND][symbol] == 0;
        }

        int locals() {
            int n = 0;
            for (int k = 0; k < symbolCount; k++) {
                n += isLocal(k) ? 1 : 0;
            }
            return n;
        }

        /** What object() tells of the lists 0 to 4. */
        int told(int list, int k, int what) {
            switch (list) {
                case 0: return k < 0 || k >= SECTIONS ? NONE : what == 0 ? extent(k) : what == 1 ? alignment[k] : NONE;
                case 1: return k >= 0 && k < startCount && what == 0 ? starts[k] : NONE;
                case 2: return toldOfSymbol(k, what);
                case 3: return k >= 0 && k < relocationCount && what >= 0 && what <= ADDEND ? relocations[what][k] : NONE;
                case 4: return count(what);
                default: return NONE;
            }
        }

        private int count(int what) {
            switch (what) {
                case 0: return startCount;
                case 1: return symbolCount;
                case 2: return relocationCount;
                case 3: return shortStarts();
                default: return NONE;
            }
        }

        private int toldOfSymbol(int k, int what) {
            if (k < 0 || k >= symbolCount || what < 0) {
                return NONE;
            }
            if (what <= TYPE) {
                return symbols[what][k];
            }
            int length = 0;
            while (length < 16 && Bytes.nameByte(names[0][k], names[1][k], length) != 0) {
                length++;
            }
            if (what == 5) {
                return length;
            }
            return what - 6 < length ? Bytes.nameByte(names[0][k], names[1][k], what - 6) : NONE;
        }
    }

    /** Writes and reads the FILES of objects. */
    private static final class ObjectFile {
        private static final String NAMES = ".text .rodata .data .bss .starts .rela.text .rela.rodata .rela.data .symtab .strtab .shstrtab";
        private static final int PARTS = 11;
        private static final int BSS = 3;
        private static final int STARTS = 4;
        private static final int RELA = 5;
        private static final int SYMTAB = 8;
        private static final int STRTAB = 9;
        private static final int SHSTRTAB = 10;
        private static final int MOST_ENTRIES = 16;
        private static final int HEADER = 52;
        private static final int ENTRY = 40;
        private static final int ABSOLUTE = 65521;
        private static final int COMMON = 65522;
        private static final int OF_BSS = 8;
        /** By parts: sort, flags, alignment (of sections their own) and how many bytes one has. */
        private static final int[] SORTS = {1, 1, 1, 8, 1, 4, 4, 4, 2, 3, 3};
        private static final int[] FLAGS = {6, 2, 3, 3, 0, 64, 64, 64, 0, 0, 0};
        private static final int[] ALIGNMENTS = {1, 1, 1, 1, 2, 4, 4, 4, 4, 1, 1};
        private static final int[] EACH = {0, 0, 0, 0, 2, 12, 12, 12, 16, 0, 0};

        int fault;
        int place = NONE;
        private Contents contents = new Contents();
        private Bytes file = new Bytes(0);
        private final Bytes strings = new Bytes(2048);
        /** By parts: its entry or NONE, where it begins, how many bytes, where its name stands. */
        private final int[] entryOf = new int[PARTS];
        private final int[] begins = new int[PARTS];
        private final int[] lengths = new int[PARTS];
        private final int[] nameAt = new int[PARTS];
        /** By entries: its part. */
        private final int[] partOf = new int[MOST_ENTRIES];
        private int entries;
        private int table;
        private int symbolCount;
        /** The symbols in the order in which they are written, and the number of each there. */
        private final int[] order = new int[Contents.SYMBOLS];
        private final int[] numberOf = new int[Contents.SYMBOLS];

        void write(Contents given, Bytes out) {
            contents = given;
            orderSymbols();
            out.beginFile(1);
            out.addZeros(HEADER - out.length());
            entries = 1;
            for (int part = 0; part < PARTS; part++) {
                entryOf[part] = isThere(part) ? entries : NONE;
                if (entryOf[part] != NONE) {
                    entries++;
                    out.alignTo(part == BSS ? 1 : alignmentOf(part), 0);
                    begins[part] = out.length();
                    writePart(part, out);
                    lengths[part] = part == BSS ? contents.bss : out.length() - begins[part];
                }
            }
            out.alignTo(4, 0);
            out.put(32, out.length(), 4);
            out.put(36, contents.shortStarts() > 0 ? 1 : 0, 4);
            out.put(40, HEADER, 2);
            out.put(46, ENTRY, 2);
            out.put(48, entries, 2);
            out.put(50, entryOf[SHSTRTAB], 2);
            writeTable(out);
        }

        private void orderSymbols() {
            int n = 0;
            for (int round = 0; round < 2; round++) {
                for (int k = 0; k < contents.symbolCount; k++) {
                    if (contents.isLocal(k) == (round == 0)) {
                        order[n] = k;
                        n++;
                        numberOf[k] = n;
                    }
                }
            }
        }

        private boolean isThere(int part) {
            if (part == STARTS) {
                return contents.startCount > 0;
            }
            return part < RELA || part >= SYMTAB || relocationsOf(part - RELA) > 0;
        }

        private int relocationsOf(int section) {
            int n = 0;
            for (int k = 0; k < contents.relocationCount; k++) {
                n += contents.relocations[Contents.SECTION][k] == section ? 1 : 0;
            }
            return n;
        }

        private int alignmentOf(int part) {
            return part <= BSS ? contents.alignment[part] : ALIGNMENTS[part];
        }

        private void writePart(int part, Bytes out) {
            if (part < BSS) {
                out.addAll(contents.bytes[part]);
            } else if (part == STARTS) {
                for (int k = 0; k < contents.startCount; k++) {
                    out.addNumber(contents.starts[k], 2);
                }
            } else if (part == SYMTAB) {
                writeSymbols(out);
            } else if (part == STRTAB) {
                out.addAll(strings);
            } else if (part == SHSTRTAB) {
                writeNames(out);
            } else if (part != BSS) {
                writeRelocations(part - RELA, out);
            }
        }

        private void writeRelocations(int section, Bytes out) {
            for (int k = 0; k < contents.relocationCount; k++) {
                if (contents.relocations[Contents.SECTION][k] == section) {
                    int symbol = contents.relocations[Contents.SYMBOL][k];
                    int number = symbol >= 0 && symbol < contents.symbolCount ? numberOf[symbol] : 0;
                    out.addNumber(contents.relocations[Contents.PLACE][k], 4);
                    out.addNumber(256 * number + contents.relocations[Contents.KIND][k], 4);
                    out.addNumber(contents.relocations[Contents.ADDEND][k], 4);
                }
            }
        }

        private void writeSymbols(Bytes out) {
            strings.clear();
            strings.add(0);
            out.addZeros(16);
            for (int k = 0; k < contents.symbolCount; k++) {
                int s = order[k];
                int[][] symbols = contents.symbols;
                out.addNumber(strings.placeOfName(contents.names[0][s], contents.names[1][s]), 4);
                out.addNumber(symbols[Contents.VALUE][s], 4);
                out.addNumber(symbols[Contents.EXTENT][s], 4);
                out.addNumber(16 * symbols[Contents.BIND][s] + symbols[Contents.TYPE][s], 2);
                int where = symbols[Contents.WHERE][s];
                int number = where >= 0 && where <= BSS ? entryOf[where] : 0;
                out.addNumber(where == Contents.ABSOLUTE ? ABSOLUTE : where == Contents.COMMON ? COMMON : number, 2);
            }
        }

        private void writeNames(Bytes out) {
            strings.clear();
            strings.add(0);
            for (int part = 0; part < PARTS; part++) {
                if (entryOf[part] != NONE) {
                    nameAt[part] = strings.placeOfName(Bytes.halfOfWord(NAMES, part, 0), Bytes.halfOfWord(NAMES, part, 1));
                }
            }
            out.addAll(strings);
        }

        private void writeTable(Bytes out) {
            out.addZeros(ENTRY);
            for (int part = 0; part < PARTS; part++) {
                if (entryOf[part] != NONE) {
                    out.addNumber(nameAt[part], 4);
                    out.addNumber(SORTS[part], 4);
                    out.addNumber(FLAGS[part], 4);
                    out.addNumber(0, 4);
                    out.addNumber(begins[part], 4);
                    out.addNumber(lengths[part], 4);
                    out.addNumber(linkOf(part), 4);
                    out.addNumber(part == SYMTAB ? 1 + contents.locals() : infoOf(part), 4);
                    out.addNumber(alignmentOf(part), 4);
                    out.addNumber(EACH[part], 4);
                }
            }
        }

        private int linkOf(int part) {
            if (part == SYMTAB) {
                return entryOf[STRTAB];
            }
            return part >= RELA && part < SYMTAB ? entryOf[SYMTAB] : 0;
        }

        private int infoOf(int part) {
            return part >= RELA && part < SYMTAB ? entryOf[part - RELA] : 0;
        }

        /** Reads a FILE: 0, or the FAULT, and place is its PLACE; the contents count without a fault alone. */
        int read(Bytes given, Contents into) {
            file = given;
            contents = into;
            fault = 0;
            place = NONE;
            into.clear();
            boolean good = readHeader() && readEntries() && readNames() && isLikeWritten() && hasAll() && hasRoom();
            if (good && holdsStrings(STRTAB, 20)) {
                fillSections();
                good = readSymbols() && readRelocations() && readStarts();
            }
            return fault;
        }

        private boolean fail(int number, int where) {
            fault = number;
            place = where;
            return false;
        }

        private boolean isNumber(int at, int width, long low, long high) {
            long v = file.number(at, width);
            return v >= low && v <= high || fail(9, at);
        }

        private boolean readHeader() {
            int head = file.headFault(1);
            if (head != 0) {
                return fail(head >> 16, head & 0xffff);
            }
            if (!isNumber(20, 4, 1, 1) || !isNumber(24, 4, 0, 0) || !isNumber(28, 4, 0, 0)) {
                return false;
            }
            long at = file.number(32, 4);
            if (at < HEADER || (at & 3) != 0) {
                return fail(9, 32);
            }
            entries = (int) file.number(48, 2);
            if (!isNumber(36, 4, 0, 1) || !isNumber(40, 2, HEADER, HEADER) || !isNumber(42, 2, 0, 0) || !isNumber(44, 2, 0, 0)
                    || !isNumber(46, 2, ENTRY, ENTRY) || !isNumber(48, 2, 1, MOST_ENTRIES) || !isNumber(50, 2, 1, entries - 1)) {
                return false;
            }
            if (at + ENTRY * entries > file.length()) {
                return fail(10, 32);
            }
            table = (int) at;
            return true;
        }

        private long ofEntry(int entry, int at) {
            return file.number(table + ENTRY * entry + at, 4);
        }

        private boolean failEntry(int number, int entry, int at) {
            return fail(number, table + ENTRY * entry + at);
        }

        private boolean readEntries() {
            for (int at = 0; at < ENTRY; at += 4) {
                if (ofEntry(0, at) != 0) {
                    return failEntry(11, 0, at);
                }
            }
            for (int e = 1; e < entries; e++) {
                if (!readEntry(e)) {
                    return false;
                }
            }
            return true;
        }

        private boolean readEntry(int e) {
            long sort = ofEntry(e, 4);
            if (sort < 1 || sort > 4 && sort != OF_BSS) {
                return failEntry(11, e, 4);
            }
            long begin = ofEntry(e, 16);
            long length = ofEntry(e, 20);
            boolean inFile = sort != OF_BSS;
            if (inFile && (begin + length > file.length() || length > 0 && begin < HEADER)) {
                return failEntry(12, e, 16);
            }
            long alignment = ofEntry(e, 32);
            if (!isAlignment(alignment) || inFile && (begin & alignment - 1) != 0) {
                return failEntry(13, e, 32);
            }
            if (!inFile || length == 0) {
                return true;
            }
            if (meet(begin, length, table, ENTRY * entries)) {
                return failEntry(14, e, 16);
            }
            for (int f = 1; f < e; f++) {
                if (ofEntry(f, 4) != OF_BSS && meet(begin, length, ofEntry(f, 16), ofEntry(f, 20))) {
                    return failEntry(14, e, 16);
                }
            }
            return true;
        }

        static boolean isAlignment(long v) {
            return v >= 1 && v <= 64 && (v & v - 1) == 0;
        }

        static boolean meet(long begin, long length, long other, long otherLength) {
            return length > 0 && otherLength > 0 && begin < other + otherLength && other < begin + length;
        }

        /** How many bytes, within a part, stand ahead of the next 0. */
        private int nameLength(int from, int to) {
            int k = from;
            while (k < to && file.one(k) != 0) {
                k++;
            }
            return k - from;
        }

        private boolean readNames() {
            int e = (int) file.number(50, 2);
            if (ofEntry(e, 4) != 3) {
                return failEntry(15, e, 4);
            }
            int begin = (int) ofEntry(e, 16);
            int length = (int) ofEntry(e, 20);
            if (!holdsStrings(begin, length, 15, table + ENTRY * e + 20)) {
                return false;
            }
            for (int part = 0; part < PARTS; part++) {
                entryOf[part] = NONE;
                begins[part] = 0;
                lengths[part] = 0;
            }
            for (int k = 1; k < entries; k++) {
                long at = ofEntry(k, 0);
                int part = at < length ? partNamed(begin + (int) at, begin + length) : NONE;
                if (part == NONE || entryOf[part] != NONE) {
                    return failEntry(16, k, 0);
                }
                entryOf[part] = k;
                partOf[k] = part;
                begins[part] = (int) ofEntry(k, 16);
                lengths[part] = (int) Math.min(ofEntry(k, 20), 1 << 20);
            }
            return true;
        }

        private int partNamed(int from, int to) {
            int length = nameLength(from, to);
            return length > 16 ? NONE : Bytes.wordAt(NAMES, file.half(from, length), file.half(from + 8, length - 8));
        }

        private boolean holdsStrings(int part, int number) {
            return holdsStrings(begins[part], lengths[part], number, table + ENTRY * entryOf[part] + 20);
        }

        /** Whether a part with strings has bytes, a 0 first and last. */
        private boolean holdsStrings(int begin, int length, int number, int lengthAt) {
            if (length == 0) {
                return fail(number, lengthAt);
            }
            if (file.one(begin) != 0) {
                return fail(number, begin);
            }
            return file.one(begin + length - 1) == 0 || fail(number, begin + length - 1);
        }

        private boolean isLikeWritten() {
            for (int e = 1; e < entries; e++) {
                int part = partOf[e];
                if (part < 0 || part >= PARTS) {
                    return false;
                }
                if (ofEntry(e, 4) != SORTS[part]) {
                    return failEntry(17, e, 4);
                }
                if (ofEntry(e, 8) != FLAGS[part]) {
                    return failEntry(17, e, 8);
                }
                if (ofEntry(e, 12) != 0) {
                    return failEntry(17, e, 12);
                }
                if (ofEntry(e, 24) != linkOf(part)) {
                    return failEntry(17, e, 24);
                }
                if (part != SYMTAB && ofEntry(e, 28) != infoOf(part)) {
                    return failEntry(17, e, 28);
                }
                if (ofEntry(e, 36) != EACH[part]) {
                    return failEntry(17, e, 36);
                }
            }
            return true;
        }

        private boolean hasAll() {
            boolean all = entryOf[SYMTAB] != NONE && entryOf[STRTAB] != NONE && entryOf[SHSTRTAB] == file.number(50, 2);
            return all || fail(18, 50);
        }

        private boolean hasRoom() {
            int relocations = 0;
            for (int e = 1; e < entries; e++) {
                int part = partOf[e];
                int length = lengths[part];
                boolean good = true;
                if (part < BSS) {
                    good = length <= Contents.SECTION_ROOM;
                } else if (part == BSS) {
                    good = length <= Contents.BSS_ROOM;
                } else if (part == STARTS) {
                    good = (length & 1) == 0 && length <= 2 * Contents.STARTS;
                } else if (part < SYMTAB) {
                    relocations += length / 12;
                    good = length % 12 == 0 && relocations <= Contents.RELOCATIONS;
                } else if (part == SYMTAB) {
                    good = (length & 15) == 0 && length >= 16 && length <= 16 * Contents.SYMBOLS + 16;
                }
                if (!good) {
                    return failEntry(19, e, 20);
                }
            }
            return true;
        }

        private void fillSections() {
            for (int s = 0; s < Contents.SECTIONS; s++) {
                if (entryOf[s] != NONE) {
                    contents.alignment[s] = (int) ofEntry(entryOf[s], 32);
                }
                for (int k = 0; s < BSS && k < lengths[s]; k++) {
                    contents.bytes[s].add(file.one(begins[s] + k));
                }
            }
            contents.bss = lengths[BSS];
        }

        private boolean readSymbols() {
            int begin = begins[SYMTAB];
            for (int k = 0; k < 16; k++) {
                if (file.one(begin + k) != 0) {
                    return fail(21, begin + k);
                }
            }
            symbolCount = lengths[SYMTAB] / 16;
            for (int k = 1; k < symbolCount; k++) {
                if (!readSymbol(begin + 16 * k)) {
                    return false;
                }
            }
            return ofEntry(entryOf[SYMTAB], 28) == 1 + contents.locals() || failEntry(28, entryOf[SYMTAB], 28);
        }

        private boolean readSymbol(int at) {
            int from = begins[STRTAB] + (int) Math.min(file.number(at, 4), lengths[STRTAB]);
            int length = nameLength(from, begins[STRTAB] + lengths[STRTAB]);
            boolean named = length >= 1 && length <= 16;
            for (int k = 0; k < length; k++) {
                named = named && file.one(from + k) >= 33 && file.one(from + k) <= 126;
            }
            if (!named) {
                return fail(22, at);
            }
            int bind = file.one(at + 12) >> 4;
            int type = file.one(at + 12) & 15;
            if (bind > 2 || type > 2) {
                return fail(23, at + 12);
            }
            if (file.one(at + 13) != 0) {
                return fail(23, at + 13);
            }
            int before = contents.symbolCount - 1;
            if (bind == 0 && before >= 0 && !contents.isLocal(before)) {
                return fail(24, at + 12);
            }
            int where = whereOf((int) file.number(at + 14, 2));
            if (where == COMMON) {
                return fail(25, at + 14);
            }
            return numbersMayBe(at, where, bind)
                && addSymbol(at, file.half(from, length), file.half(from + 8, length - 8), where, bind, type);
        }

        /** Where a symbol is by its number for that; COMMON (which is none) when it can't be. */
        private int whereOf(int number) {
            switch (number) {
                case 0: return Contents.NOWHERE;
                case ABSOLUTE: return Contents.ABSOLUTE;
                case COMMON: return Contents.COMMON;
                default: return number < entries && partOf[number] <= BSS ? partOf[number] : COMMON;
            }
        }

        private boolean numbersMayBe(int at, int where, int bind) {
            long value = file.number(at + 4, 4);
            long extent = file.number(at + 8, 4);
            boolean goodValue = true;
            boolean goodExtent = extent < 1L << 31;
            boolean goodBind = true;
            if (where == Contents.NOWHERE) {
                goodValue = value == 0;
                goodExtent = extent == 0;
                goodBind = bind != 0;
            } else if (where == Contents.COMMON) {
                goodValue = isAlignment(value);
                goodExtent = extent >= 1 && extent <= 4096;
                goodBind = bind == Contents.GLOBAL;
            } else if (where != Contents.ABSOLUTE) {
                goodValue = value <= contents.extent(where);
                goodExtent = value + extent <= contents.extent(where);
            }
            if (!goodValue || !goodExtent) {
                return fail(26, goodValue ? at + 8 : at + 4);
            }
            return goodBind || fail(26, at + 12);
        }

        private boolean addSymbol(int at, long high, long low, int where, int bind, int type) {
            for (int k = 0; bind != 0 && k < contents.symbolCount; k++) {
                if (!contents.isLocal(k) && contents.names[0][k] == high && contents.names[1][k] == low) {
                    return fail(27, at);
                }
            }
            int s = contents.addSymbol(high, low);
            if (s == NONE) {
                return false;
            }
            contents.symbols[Contents.WHERE][s] = where;
            contents.symbols[Contents.VALUE][s] = (int) file.number(at + 4, 4);
            contents.symbols[Contents.EXTENT][s] = (int) file.number(at + 8, 4);
            contents.symbols[Contents.BIND][s] = bind;
            contents.symbols[Contents.TYPE][s] = type;
            return true;
        }

        private boolean readRelocations() {
            for (int s = 0; s < BSS; s++) {
                for (int k = 0; k + 12 <= lengths[RELA + s]; k += 12) {
                    if (!readRelocation(s, begins[RELA + s] + k)) {
                        return false;
                    }
                }
            }
            return true;
        }

        private boolean readRelocation(int section, int at) {
            int kind = file.one(at + 4);
            int symbol = (int) file.number(at + 5, 3);
            int addend = (int) file.number(at + 8, 4);
            int width = Contents.width(kind, addend);
            boolean aligned = kind == Contents.ALIGNED;
            if (width == NONE && !aligned || section != Contents.TEXT && !Contents.isOfData(kind)) {
                return fail(29, at + 4);
            }
            if (symbol >= symbolCount || symbol != 0 != Contents.hasSymbol(kind)) {
                return fail(30, at + 4);
            }
            if (aligned && (addend < 0 || addend > 62 || (addend & 1) != 0)) {
                return fail(31, at + 8);
            }
            long from = file.number(at, 4);
            if (from + width > contents.extent(section)) {
                return fail(32, at);
            }
            return contents.addRelocation(section, (int) from, kind, symbol - 1, addend);
        }

        private boolean readStarts() {
            int before = -1;
            int begin = begins[STARTS];
            for (int k = 0; k + 2 <= lengths[STARTS]; k += 2) {
                int start = (int) file.number(begin + k, 2);
                if ((start & 1) != 0 || start <= before || start >= contents.extent(Contents.TEXT)) {
                    return fail(33, begin + k);
                }
                contents.addStart(start);
                before = start;
            }
            return file.number(36, 4) == (contents.shortStarts() > 0 ? 1 : 0) || fail(34, 36);
        }
    }

    /** The symbols of a unit that is assembled, and the VALUES of its EXPRESSIONS. */
    private static final class Scope {
        private static final int DIGITS = 10;
        private static final int ROOM = 64;
        /** Rows of values: the number, the symbol that is ADDED and the one that is TAKEN OFF (or NONE). */
        static final int NUMBER = 0;
        static final int ADDED = 1;
        static final int TAKEN = 2;

        final Source source = new Source();
        final Contents contents = new Contents();
        int fault;
        int place;
        /** Where the STATEMENT stands in the TEXT, and its beginning in the object. */
        private int statementPlace;
        private int section;
        private int begin;
        private int here;
        private final int[] symbolOf = new int[Source.NAMES];
        /** By digits: the symbol of the latest label, the one of the next label, where that was first named. */
        private final int[] latest = new int[DIGITS];
        private final int[] next = new int[DIGITS];
        private final int[] nextPlace = new int[DIGITS];
        private int hidden;
        private final int[][] stack = new int[3][ROOM];
        private int top;
        /** By operands: their values. */
        private final int[][] values = new int[3][Source.OPERANDS];

        void begin() {
            fault = source.fault;
            place = source.place;
            contents.clear();
            hidden = 0;
            for (int k = 0; k < Source.NAMES; k++) {
                symbolOf[k] = NONE;
            }
            for (int k = 0; k < DIGITS; k++) {
                latest[k] = NONE;
                next[k] = NONE;
                nextPlace[k] = NONE;
            }
        }

        void beginStatement(int s, int current) {
            statementPlace = source.statements[Source.PLACE][s];
            section = current;
            begin = contents.extent(current);
            here = NONE;
        }

        /** Tells a FAULT; the first one stays. */
        boolean fail(int number, int where) {
            if (fault == 0) {
                fault = number;
                place = where;
            }
            return false;
        }

        boolean fail(int number) {
            return fail(number, statementPlace);
        }

        /** The symbol of a name, which comes now if it hasn't; NONE, a FAULT, when there are too many. */
        int symbolNamed(int name) {
            if (name < 0 || name >= Source.NAMES) {
                return NONE;
            }
            if (symbolOf[name] == NONE) {
                symbolOf[name] = contents.addSymbol(source.names[0][name], source.names[1][name]);
            }
            if (symbolOf[name] == NONE) {
                fail(18, statementPlace);
            }
            return symbolOf[name];
        }

        /** A new HIDDEN symbol, $ and its number; NONE, a FAULT, when there are too many. */
        private int newHidden() {
            long ones = '0' + hidden % 10;
            long digits = hidden < 10 ? ones << 48 : '0' + (long) (hidden / 10) << 48 | ones << 40;
            int s = contents.addSymbol((long) '$' << 56 | digits, 0);
            hidden++;
            if (s == NONE) {
                fail(18, statementPlace);
            }
            return s;
        }

        /** The HIDDEN symbol of the STATEMENT's beginning. */
        int here() {
            if (here == NONE) {
                here = newHidden();
                settleHere();
            }
            return here;
        }

        private void settleHere() {
            if (here != NONE) {
                contents.symbols[Contents.WHERE][here] = section;
                contents.symbols[Contents.VALUE][here] = begin;
            }
        }

        boolean define(int symbol, int where, int value) {
            if (symbol < 0 || symbol >= contents.symbolCount) {
                return false;
            }
            if (contents.symbols[Contents.WHERE][symbol] != Contents.NOWHERE) {
                return fail(16);
            }
            contents.symbols[Contents.WHERE][symbol] = where;
            contents.symbols[Contents.VALUE][symbol] = value;
            return true;
        }

        void label(int name) {
            define(symbolNamed(name), section, begin);
        }

        void digitLabel(int digit) {
            if (digit < 0 || digit >= DIGITS) {
                return;
            }
            int symbol = next[digit] != NONE ? next[digit] : newHidden();
            define(symbol, section, begin);
            latest[digit] = symbol;
            next[digit] = NONE;
        }

        /** What is told of the symbols when all STATEMENTS have been gone through. */
        void finish() {
            int first = NONE;
            for (int k = 0; k < DIGITS; k++) {
                if (next[k] != NONE && (first == NONE || nextPlace[k] < first)) {
                    first = nextPlace[k];
                }
            }
            if (first != NONE) {
                fail(19, first);
            }
            for (int k = 0; k < contents.symbolCount; k++) {
                if (contents.symbols[Contents.WHERE][k] == Contents.NOWHERE && contents.symbols[Contents.BIND][k] == 0) {
                    contents.symbols[Contents.BIND][k] = Contents.GLOBAL;
                }
            }
        }

        int number(int operand) {
            return operand >= 0 && operand < Source.OPERANDS ? values[NUMBER][operand] : 0;
        }

        int added(int operand) {
            return operand >= 0 && operand < Source.OPERANDS ? values[ADDED][operand] : NONE;
        }

        int taken(int operand) {
            return operand >= 0 && operand < Source.OPERANDS ? values[TAKEN][operand] : NONE;
        }

        boolean isPlain(int operand) {
            return added(operand) == NONE && taken(operand) == NONE;
        }

        boolean isPlaced(int operand) {
            return added(operand) != NONE && taken(operand) == NONE;
        }

        /** Works out the VALUE of an operand's EXPRESSION; false with a FAULT. */
        boolean evaluate(int o) {
            if (o < 0 || o >= source.operandCount) {
                return false;
            }
            int from = source.operands[Source.FIRST][o];
            int to = from + source.operands[Source.COUNT][o];
            int at = source.operands[Source.PLACE][o];
            for (int k = from; k < to; k++) {
                int value = source.items[Source.ITEM_VALUE][k];
                boolean back = source.items[Source.SORT][k] == Source.OF_LOCAL && (value & 1) == 0;
                if (back && latest[digitOf(value)] == NONE) {
                    return fail(13, at);
                }
            }
            top = 0;
            for (int k = from; k < to; k++) {
                int sort = source.items[Source.SORT][k];
                int value = source.items[Source.ITEM_VALUE][k];
                if (sort == Source.OF_NUMBER) {
                    push(value, NONE);
                } else if (sort < Source.NEGATE) {
                    pushSymbol(symbolOfItem(sort, value, at));
                } else if (!(sort <= Source.TURN ? workOne(sort) : workTwo(sort))) {
                    return fail(14, at);
                }
                if (fault != 0) {
                    return false;
                }
            }
            for (int row = 0; row < 3; row++) {
                values[row][o] = stack[row][0];
            }
            return true;
        }

        /** The digit of a LOCAL. */
        private static int digitOf(int local) {
            return Math.max(0, Math.min(local >> 1, DIGITS - 1));
        }

        /** The symbol of a NAME, a LOCAL or HERE in an operand at a place. */
        private int symbolOfItem(int sort, int value, int at) {
            if (sort == Source.OF_NAME) {
                return symbolNamed(value);
            }
            if (sort == Source.OF_HERE) {
                if (here == NONE) {
                    here = newHidden();
                    settleHere();
                }
                return here;
            }
            int digit = digitOf(value);
            if ((value & 1) == 0) {
                return latest[digit];
            }
            if (next[digit] == NONE) {
                next[digit] = newHidden();
                nextPlace[digit] = at;
            }
            return next[digit];
        }

        /** What .equ has DEFINED is its number; another symbol is ADDED. */
        private void pushSymbol(int symbol) {
            boolean known = symbol != NONE && contents.symbols[Contents.WHERE][symbol] == Contents.ABSOLUTE;
            push(known ? contents.symbols[Contents.VALUE][symbol] : 0, known ? NONE : symbol);
        }

        private void push(int number, int added) {
            if (top < ROOM) {
                stack[NUMBER][top] = number;
                stack[ADDED][top] = added;
                stack[TAKEN][top] = NONE;
                top++;
            }
        }

        private void turnRound(int k) {
            int added = stack[ADDED][k];
            stack[NUMBER][k] = -stack[NUMBER][k];
            stack[ADDED][k] = stack[TAKEN][k];
            stack[TAKEN][k] = added;
        }

        private boolean isNumber(int k) {
            return stack[ADDED][k] == NONE && stack[TAKEN][k] == NONE;
        }

        private boolean workOne(int sort) {
            if (top < 1) {
                return false;
            }
            if (sort == Source.NEGATE) {
                turnRound(top - 1);
                return true;
            }
            stack[NUMBER][top - 1] = ~stack[NUMBER][top - 1];
            return isNumber(top - 1);
        }

        private boolean workTwo(int sort) {
            if (top < 2) {
                return false;
            }
            top--;
            if (sort == Source.MINUS) {
                turnRound(top);
            }
            if (sort == Source.PLUS || sort == Source.MINUS) {
                return addTwo(top - 1, top);
            }
            int y = stack[NUMBER][top];
            if (!isNumber(top - 1) || !isNumber(top) || y == 0 && (sort == Source.OVER || sort == Source.REST)) {
                return false;
            }
            stack[NUMBER][top - 1] = constant(sort, stack[NUMBER][top - 1], y);
            return true;
        }

        private boolean addTwo(int left, int right) {
            for (int row = ADDED; row <= TAKEN; row++) {
                if (stack[row][left] != NONE && stack[row][right] != NONE) {
                    return false;
                }
            }
            stack[NUMBER][left] += stack[NUMBER][right];
            for (int row = ADDED; row <= TAKEN; row++) {
                if (stack[row][left] == NONE) {
                    stack[row][left] = stack[row][right];
                }
            }
            if (stack[ADDED][left] == stack[TAKEN][left]) {
                stack[ADDED][left] = NONE;
                stack[TAKEN][left] = NONE;
            }
            return true;
        }

        private static int constant(int sort, int x, int y) {
            switch (sort) {
                case Source.TIMES: return x * y;
                case Source.OVER: return y == 0 ? 0 : (int) ((long) x / y);
                case Source.REST: return y == 0 ? 0 : (int) ((long) x % y);
                case Source.UP: return x << (y & 31);
                case Source.DOWN: return x >>> (y & 31);
                case Source.AND: return x & y;
                case Source.XOR: return x ^ y;
                default: return x | y;
            }
        }
    }

    /** Goes through the STATEMENTS of a TEXT and makes an object of them. */
    private static final class Assembler {
        private static final String DIRECTIVES = ".text .rodata .data .bss .globl .weak .equ .comm .byte .half .word .ascii .asciz .zero .align .option";
        private static final int GLOBL = 4;
        private static final int WEAK = 5;
        private static final int EQU = 6;
        private static final int COMM = 7;
        private static final int BYTE = 8;
        private static final int WORD = 10;
        private static final int ASCII = 11;
        private static final int ASCIZ = 12;
        private static final int ZERO = 13;
        private static final int ALIGN = 14;
        private static final int OPTION = 15;

        private static final String OTHERS = "nop mv not neg seqz snez sltz sgtz beqz bnez bgez bltz blez bgtz bgt ble bgtu bleu j jr ret li la call tail";
        /** By other instructions: the kind of which they are, or the last one of theirs is. */
        private static final int[] OTHER_KINDS = {18, 18, 21, 28, 20, 31, 30, 30, 4, 5, 7, 6, 7, 6, 6, 7, 8, 9, 2, 3, 3, 18, 18, 3, 3};
        private static final int NOT = 2;
        private static final int SEQZ = 4;
        private static final int RET = 20;
        private static final int LI = 21;
        private static final int LA = 22;
        private static final int CALL = 23;
        private static final int TAIL = 24;
        /** More of them, that have the name of a kind: jal t, jalr a, loads and stores of an EXPRESSION. */
        private static final int JAL = 25;
        private static final int JALR = 26;
        private static final int LOAD = 27;
        private static final int STORE = 28;

        private static final String OPTIONS = "rvc norvc relax norelax push pop";
        private static final int PUSHES = 8;
        private static final int MOST_BYTES = 8192;
        private static final int RA = 1;
        private static final int SP = 2;
        private static final int T1 = 6;
        private static final long LOWEST = -0x80000000L;
        private static final long HIGHEST = 0x7fffffffL;

        int fault;
        int place = NONE;
        private final Scope scope = new Scope();
        private int current;
        private boolean shorts;
        private boolean shrinks;
        /** What .option push keeps: 1 for SHORTS, 2 for SHRINKS. */
        private final int[] pushed = new int[PUSHES];
        private int pushCount;
        /** Of the instruction: its kind and number among the others, its parts, the mark, symbol and number of its EXPRESSION. */
        private int kind;
        private int other;
        private int d;
        private int a;
        private int b;
        private int i;
        private int mark;
        private int symbol;
        private int number;

        /** Where the TEXT is read. */
        Source source() {
            return scope.source;
        }

        /** Makes the object of the TEXT that was read and writes it: 0, or the FAULT. */
        int make(ObjectFile files, Bytes out) {
            Source source = scope.source;
            scope.begin();
            current = Contents.TEXT;
            shorts = true;
            shrinks = true;
            pushCount = 0;
            scope.contents.alignment[Contents.TEXT] = 4;
            for (int s = 0; s < source.statementCount && scope.fault == 0; s++) {
                int value = source.statements[Source.VALUE][s];
                scope.beginStatement(s, current);
                switch (source.statements[Source.SORT][s]) {
                    case Source.LABEL: scope.label(value); break;
                    case Source.DIGIT_LABEL: scope.digitLabel(value); break;
                    default:
                        int directive = directiveNamed(value);
                        if (directive != NONE) {
                            direct(s, directive);
                        } else if (takeKind(value)) {
                            instruct(s, other != NONE ? other : otherOfKind(s));
                        }
                        break;
                }
            }
            if (scope.fault == 0) {
                scope.finish();
                files.write(scope.contents, out);
                if (out.length() > MOST_BYTES) {
                    scope.fail(20, source.text.length());
                }
            }
            fault = scope.fault;
            place = scope.place;
            return fault;
        }

        private static boolean isName(int name) {
            return name >= 0 && name < Source.NAMES;
        }

        private int directiveNamed(int name) {
            return isName(name) ? Bytes.wordAt(DIRECTIVES, scope.source.names[0][name], scope.source.names[1][name]) : NONE;
        }

        /** Takes the kind of an instruction by its name; false with a FAULT. */
        private boolean takeKind(int name) {
            if (!isName(name)) {
                return false;
            }
            long high = scope.source.names[0][name];
            long low = scope.source.names[1][name];
            kind = Bytes.wordAt(Word.NAMES, high, low);
            other = kind == NONE ? Bytes.wordAt(OTHERS, high, low) : NONE;
            if (kind == NONE && other == NONE) {
                return scope.fail(9);
            }
            if (current != Contents.TEXT || (textEnd() & 1) != 0) {
                return scope.fail(10);
            }
            if (kind >= Word.SHORT && !shorts) {
                return scope.fail(11);
            }
            if (other != NONE) {
                kind = OTHER_KINDS[other];
            }
            return true;
        }

        private int ofOperand(int row, int o) {
            return o >= 0 && o < Source.OPERANDS ? scope.source.operands[row][o] : 0;
        }

        private int firstOperand(int s) {
            return scope.source.statements[Source.FIRST][s];
        }

        private int operandsOf(int s) {
            return scope.source.statements[Source.COUNT][s];
        }

        /** The operands as they should be: as Word.shape tells, and n PLAIN, t a target, e either; s a name alone; g a STRING. */
        private boolean fits(String shape, int s, int marks) {
            if (operandsOf(s) != shape.length()) {
                return false;
            }
            for (int k = 0; k < shape.length(); k++) {
                if (!fitsOne(shape.charAt(k), firstOperand(s) + k, marks)) {
                    return false;
                }
            }
            return true;
        }

        private boolean allFit(char c, int s) {
            for (int k = 0; k < operandsOf(s); k++) {
                if (!fitsOne(c, firstOperand(s) + k, 0)) {
                    return false;
                }
            }
            return operandsOf(s) > 0;
        }

        private boolean fitsOne(char c, int o, int marks) {
            int sort = ofOperand(Source.SORT, o);
            int register = ofOperand(Source.REGISTER, o);
            int marked = ofOperand(Source.MARK, o);
            boolean markFits = marked == 0 || (marks >> marked & 1) != 0;
            switch (c) {
                case 'd': case 'a': case 'b': return sort == Source.IS_REGISTER;
                case 'p': return sort == Source.IS_REGISTER && register == SP;
                case 'g': return sort == Source.IS_STRING;
                case 's': return sort == Source.IS_EXPRESSION && marked == 0 && nameAlone(o) != NONE;
                case 'm': return sort == Source.IS_MEMORY && markFits;
                case 'q': return sort == Source.IS_MEMORY && markFits && register == SP;
                default: return sort == Source.IS_EXPRESSION && markFits;
            }
        }

        /** The name that an EXPRESSION is alone; NONE when it is something else. */
        private int nameAlone(int o) {
            int from = ofOperand(Source.FIRST, o);
            if (ofOperand(Source.COUNT, o) != 1 || from < 0 || from >= Source.ITEMS) {
                return NONE;
            }
            return scope.source.items[Source.SORT][from] == Source.OF_NAME ? scope.source.items[Source.ITEM_VALUE][from] : NONE;
        }

        /** The marks, by bits, that are taken with a kind's EXPRESSION. */
        private static int marksOf(int kind) {
            if (kind == Word.LUI) {
                return 1 << 1;
            }
            if (kind == Word.AUIPC) {
                return 1 << 3;
            }
            boolean low = kind == Word.JALR || kind >= Word.LB && kind <= Word.ANDI;
            return low ? 1 << 2 | 1 << 4 : 0;
        }

        /** The other instruction, with the name of a kind, of which the operands are; NONE without one. */
        private int otherOfKind(int s) {
            if (kind == Word.JAL) {
                return fits("t", s, 0) ? JAL : NONE;
            }
            if (kind == Word.JALR) {
                return fits("a", s, 0) ? JALR : NONE;
            }
            if (kind >= Word.LB && kind <= Word.LHU) {
                return fits("dt", s, 0) ? LOAD : NONE;
            }
            return kind >= Word.SB && kind <= Word.SW && fits("bta", s, 0) ? STORE : NONE;
        }

        private static String shapeOf(int other) {
            switch (other) {
                case 0: case RET: return "";
                case 1: case NOT: case SEQZ: case 6: return "da";
                case 3: case 5: case 7: return "db";
                case 8: case 9: case 10: case 11: return "at";
                case 12: case 13: return "bt";
                case 14: case 15: case 16: case 17: return "bat";
                case 19: case JALR: return "a";
                case LI: return "dn";
                case LA: return "de";
                case LOAD: return "dt";
                case STORE: return "bta";
                default: return "t";
            }
        }

        private void instruct(int s, int form) {
            String shape = form == NONE ? Word.shape(kind) : shapeOf(form);
            if (!fits(shape, s, form == NONE ? marksOf(kind) : 0)) {
                scope.fail(12);
                return;
            }
            d = form == JAL || form == JALR ? RA : 0;
            a = form == RET ? RA : 0;
            b = 0;
            i = form == NOT ? -1 : form == SEQZ ? 1 : 0;
            mark = 0;
            symbol = NONE;
            number = 0;
            if (!gather(shape, s)) {
                return;
            }
            scope.contents.addStart(textEnd());
            if (form == LI || form == LA && symbol == NONE) {
                putNumber();
                return;
            }
            switch (form) {
                case LA: putAccess(d, 24); break;
                case CALL: putCall(RA, RA); break;
                case TAIL: putCall(0, T1); break;
                case LOAD: putAccess(d, 24); break;
                case STORE: putAccess(a, 25); break;
                default: putPlain(); break;
            }
        }

        /** How many bytes .text has. */
        private int textEnd() {
            return scope.contents.extent(Contents.TEXT);
        }

        /** Takes the operands, from the left, as parts of the instruction; false with a FAULT. */
        private boolean gather(String shape, int s) {
            for (int k = 0; k < shape.length(); k++) {
                char c = shape.charAt(k);
                int o = firstOperand(s) + k;
                boolean isPart = c == 'd' || c == 'a' || c == 'b';
                if (!isPart && c != 'p' && (!scope.evaluate(o) || !takeNumber(c, o))) {
                    return false;
                }
                if ((isPart || c == 'm') && !takeRegister(c == 'm' ? 'a' : c, o)) {
                    return false;
                }
            }
            return true;
        }

        private boolean takeRegister(char part, int o) {
            int r = ofOperand(Source.REGISTER, o);
            if (!Word.mayHave(kind, part, r)) {
                return scope.fail(15, ofOperand(Source.PLACE, o));
            }
            if (part == 'd') {
                d = r;
            } else if (part == 'a') {
                a = r;
            } else {
                b = r;
            }
            return true;
        }

        private boolean takeNumber(char c, int o) {
            number = scope.number(o);
            symbol = scope.added(o);
            mark = ofOperand(Source.MARK, o);
            boolean plain = scope.isPlain(o);
            boolean placed = scope.isPlaced(o);
            boolean good = plain;
            if (c == 'P' || c == 't' || mark == 3) {
                good = placed;
            } else if (mark == 4) {
                good = placed && number == 0;
            } else if (c == 'e' || mark != 0) {
                good = plain || placed;
            }
            if (!good) {
                return scope.fail(14, ofOperand(Source.PLACE, o));
            }
            if (c != 'n' && c != 'e' && mark == 0 && plain && !Word.mayHave(kind, number)) {
                return scope.fail(15, ofOperand(Source.PLACE, o));
            }
            if (plain) {
                i = mark == 1 ? upper(number) : mark == 2 ? lower(number) : number;
            }
            return true;
        }

        private static int upper(int n) {
            return n + 2048 >>> 12;
        }

        private static int lower(int n) {
            return n << 20 >> 20;
        }

        /** The relocation of the instruction's word; 0 without one. */
        private int relocationKind() {
            boolean store = kind >= Word.SB && kind <= Word.SW;
            switch (symbol == NONE ? NONE : mark) {
                case NONE: return 0;
                case 1: return 26;
                case 2: return store ? 28 : 27;
                case 3: return 23;
                case 4: return store ? 25 : 24;
                default: break;
            }
            if (kind == Word.JAL) {
                return 17;
            }
            if (kind < Word.SHORT) {
                return 16;
            }
            return kind == Word.C_J || kind == Word.C_JAL ? 45 : 44;
        }

        private void putPlain() {
            int relocation = relocationKind();
            int at = textEnd();
            putWord(kind, d, a, b, i, relocation != 0);
            if (relocation != 0) {
                relocate(at, relocation, symbol, number);
            }
        }

        private void putNumber() {
            if (number >= -2048 && number <= 2047) {
                putWord(Word.ADDI, d, 0, 0, number, false);
                return;
            }
            putWord(Word.LUI, d, 0, 0, upper(number), false);
            if (lower(number) != 0) {
                putWord(Word.ADDI, d, d, 0, lower(number), false);
            }
        }

        /** auipc of a register, and the instruction's word with that for a. */
        private void putAccess(int register, int relocation) {
            int at = textEnd();
            putWord(Word.AUIPC, register, 0, 0, 0, true);
            relocate(at, 23, symbol, number);
            int second = textEnd();
            putWord(kind, d, register, b, 0, true);
            relocate(second, relocation, scope.here(), 0);
        }

        private void putCall(int link, int register) {
            int at = textEnd();
            putWord(Word.AUIPC, register, 0, 0, 0, true);
            putWord(Word.JALR, link, register, 0, 0, true);
            relocate(at, 19, symbol, number);
        }

        private void relocate(int at, int relocation, int aim, int addend) {
            boolean good = scope.contents.addRelocation(current, at, relocation, aim, addend);
            if (good && shrinks && (relocation == 19 || relocation >= 23 && relocation <= 28)) {
                good = scope.contents.addRelocation(current, at, Contents.EASED, NONE, 0);
            }
            if (!good) {
                scope.fail(18);
            }
        }

        private void putWord(int k, int partD, int partA, int partB, int partI, boolean stays) {
            int w = stays || !shorts || k >= Word.SHORT ? NONE : Word.shorter(k, partD, partA, partB, partI);
            if (w != NONE) {
                put(w, 2);
            } else {
                put(Word.make(k, partD, partA, partB, partI), k >= Word.SHORT ? 2 : 4);
            }
        }

        /** Puts a number behind the CURRENT section, which has bytes. */
        private void put(int v, int width) {
            if (current >= Contents.BSS || scope.contents.bytes[current].room() < width) {
                scope.fail(18);
            } else {
                scope.contents.bytes[current].addNumber(v, width);
            }
        }

        private void putZeros(int n) {
            if (current < Contents.BSS) {
                if (scope.contents.bytes[current].room() < n) {
                    scope.fail(18);
                } else {
                    scope.contents.bytes[current].addZeros(n);
                }
            } else if (scope.contents.bss + n > Contents.BSS_ROOM) {
                scope.fail(18);
            } else {
                scope.contents.bss += n;
            }
        }

        private void direct(int s, int directive) {
            if (directive >= BYTE && directive <= ASCIZ && current == Contents.BSS) {
                scope.fail(10);
                return;
            }
            if (!directiveFits(s, directive)) {
                scope.fail(12);
                return;
            }
            int first = firstOperand(s);
            boolean named = directive >= GLOBL && directive <= COMM;
            int aim = named ? scope.symbolNamed(nameAlone(first)) : NONE;
            boolean numbered = directive == EQU || directive == COMM || directive == ZERO || directive == ALIGN;
            int n = numbered ? plain(named ? first + 1 : first, leastOf(directive), greatestOf(directive)) : 0;
            int m = directive == COMM ? plain(first + 2, 1, 64) : 0;
            if (scope.fault != 0) {
                return;
            }
            switch (directive) {
                case GLOBL: case WEAK: bind(aim, directive == WEAK); break;
                case EQU: scope.define(aim, Contents.ABSOLUTE, n); break;
                case COMM: share(aim, n, m, ofOperand(Source.PLACE, first + 2)); break;
                case BYTE: case BYTE + 1: case WORD: putData(first, operandsOf(s), 1 << directive - BYTE); break;
                case ASCII: case ASCIZ: putStrings(first, operandsOf(s), directive == ASCIZ); break;
                case ZERO: putZeros(n); break;
                case ALIGN: align(n); break;
                case OPTION: choose(optionOf(first)); break;
                default: current = directive; break;
            }
        }

        private static long leastOf(int directive) {
            return directive == EQU ? LOWEST : directive == COMM ? 1 : 0;
        }

        private static long greatestOf(int directive) {
            return directive == EQU ? HIGHEST : directive == ALIGN ? 6 : 4096;
        }

        private boolean directiveFits(int s, int directive) {
            switch (directive) {
                case GLOBL: case WEAK: return fits("s", s, 0);
                case EQU: return fits("sn", s, 0);
                case COMM: return fits("snn", s, 0);
                case ASCII: case ASCIZ: return allFit('g', s);
                case ZERO: case ALIGN: return fits("n", s, 0);
                case OPTION: return fits("s", s, 0) && optionOf(firstOperand(s)) != NONE;
                default: return directive >= BYTE ? allFit('n', s) : operandsOf(s) == 0;
            }
        }

        /** The number of a PLAIN operand within bounds; 0 with a FAULT. */
        private int plain(int o, long least, long greatest) {
            if (scope.fault != 0 || !scope.evaluate(o)) {
                return 0;
            }
            int n = scope.number(o);
            if (!scope.isPlain(o)) {
                scope.fail(14, ofOperand(Source.PLACE, o));
                return 0;
            }
            if (n < least || n > greatest) {
                scope.fail(15, ofOperand(Source.PLACE, o));
                return 0;
            }
            return n;
        }

        private void bind(int s, boolean weak) {
            if (s < 0 || s >= Contents.SYMBOLS) {
                return;
            }
            if (weak && scope.contents.symbols[Contents.WHERE][s] == Contents.COMMON) {
                scope.fail(16);
            } else {
                scope.contents.symbols[Contents.BIND][s] = weak ? Contents.WEAK : Contents.GLOBAL;
            }
        }

        private void share(int s, int extent, int alignment, int alignmentPlace) {
            if (s < 0 || s >= Contents.SYMBOLS) {
                return;
            }
            if ((alignment & alignment - 1) != 0) {
                scope.fail(15, alignmentPlace);
            } else if (scope.contents.symbols[Contents.BIND][s] == Contents.WEAK) {
                scope.fail(16);
            } else if (scope.define(s, Contents.COMMON, alignment)) {
                scope.contents.symbols[Contents.EXTENT][s] = extent;
                scope.contents.symbols[Contents.BIND][s] = Contents.GLOBAL;
            }
        }

        private void putData(int first, int n, int width) {
            for (int o = first; o < first + n; o++) {
                if (!scope.evaluate(o) || !dataMayBe(o, width)) {
                    return;
                }
            }
            int row = width == 1 ? 0 : width == 2 ? 1 : 2;
            for (int o = first; o < first + n && scope.fault == 0; o++) {
                int at = scope.contents.extent(current);
                put(scope.isPlain(o) ? scope.number(o) : 0, width);
                if (scope.isPlaced(o)) {
                    relocate(at, 1, scope.added(o), scope.number(o));
                } else if (!scope.isPlain(o)) {
                    relocate(at, 33 + row, scope.added(o), scope.number(o));
                    relocate(at, 37 + row, scope.taken(o), 0);
                }
            }
        }

        private boolean dataMayBe(int o, int width) {
            if (!scope.isPlain(o)) {
                boolean good = scope.added(o) != NONE && (scope.taken(o) != NONE || width == 4);
                return good || scope.fail(14, ofOperand(Source.PLACE, o));
            }
            int n = scope.number(o);
            long half = 1L << 8 * width - 1;
            return width == 4 || n >= -half && n < 2 * half || scope.fail(15, ofOperand(Source.PLACE, o));
        }

        private void putStrings(int first, int n, boolean zero) {
            Source source = scope.source;
            for (int o = first; o < first + n && scope.fault == 0; o++) {
                int from = ofOperand(Source.FIRST, o);
                int to = from + ofOperand(Source.COUNT, o);
                for (int k = from; k < to; k += source.text.one(k) == '\\' ? 2 : 1) {
                    put(source.byteWithin(k, '"'), 1);
                }
                if (zero) {
                    put(0, 1);
                }
            }
        }

        private void align(int power) {
            int multiple = 1 << power;
            int[] alignment = scope.contents.alignment;
            alignment[current] = Math.max(alignment[current], multiple);
            int at = scope.contents.extent(current);
            if (current != Contents.TEXT) {
                putZeros(-at & multiple - 1);
                return;
            }
            int n = multiple - (shorts ? 2 : 4);
            if (n <= 0) {
                return;
            }
            for (int k = 0; k + 4 <= n; k += 4) {
                put(Word.make(Word.ADDI, 0, 0, 0, 0), 4);
            }
            if ((n & 2) != 0) {
                put(Word.make(Word.C_NOP, 0, 0, 0, 0), 2);
            }
            relocate(at, Contents.ALIGNED, NONE, n);
        }

        private int optionOf(int o) {
            int name = nameAlone(o);
            if (!isName(name)) {
                return NONE;
            }
            return Bytes.wordAt(OPTIONS, scope.source.names[0][name], scope.source.names[1][name]);
        }

        private void choose(int option) {
            switch (option) {
                case 0: shorts = true; break;
                case 1: shorts = false; break;
                case 2: shrinks = true; break;
                case 3: shrinks = false; break;
                case 4: push(); break;
                default: pop(); break;
            }
        }

        private void push() {
            if (pushCount >= PUSHES) {
                scope.fail(17);
            } else {
                pushed[pushCount] = (shorts ? 1 : 0) | (shrinks ? 2 : 0);
                pushCount++;
            }
        }

        private void pop() {
            if (pushCount <= 0) {
                scope.fail(17);
            } else {
                pushCount--;
                shorts = (pushed[pushCount] & 1) != 0;
                shrinks = (pushed[pushCount] & 2) != 0;
            }
        }
    }

    /** What an image tells: segments, the ENTRY, MARKS; it can be written, and read from a FILE. */
    private static final class Image {
        static final int SEGMENTS = 3;
        static final int TEXT = 0;
        static final int CONST = 1;
        static final int DATA = 2;
        static final int SEGMENT_ROOM = 4096;
        static final int MORE_ROOM = 32768;
        static final int MARKS = SEGMENT_ROOM / 2;
        static final int LAST = 131071;
        private static final int PAGE = 16;
        private static final int HEADER = 52;
        private static final int ROW = 32;
        private static final int MOST_ROWS = 8;
        private static final int OF_SEGMENT = 1;
        private static final int OF_NOTE = 4;
        private static final int NOTE_HEAD = 20;
        private static final int NOTE_LEAST = 28;
        private static final int SUM_BITS = 0xedb88320;
        /** The first 20 bytes of a NOTE, but for how many are behind its name. */
        private static final int[] NOTE = {6, 0, 0, 0, 0, 0, 0, 0, 1, 0, 0, 0, 77, 97, 114, 107, 115, 0, 0, 0};
        /** By segments: its rights as files tell them. */
        private static final int[] RIGHTS = {5, 4, 6};

        final boolean[] isThere = new boolean[SEGMENTS];
        final int[] address = new int[SEGMENTS];
        final Bytes[] bytes = new Bytes[SEGMENTS];
        final int[] more = new int[SEGMENTS];
        final boolean[] marks = new boolean[MARKS];
        int entry;
        int fault;
        int place = NONE;
        /** The segment, or MARK, that isn't GOOD. */
        private int bad;
        private Bytes file = new Bytes(0);
        /** By segments, and for the NOTE: its row in the TABLE, NONE without one. */
        private final int[] rowOf = new int[SEGMENTS + 1];
        private int table;
        private int rows;

        Image() {
            for (int k = 0; k < SEGMENTS; k++) {
                bytes[k] = new Bytes(SEGMENT_ROOM);
            }
        }

        void clear() {
            for (int k = 0; k < SEGMENTS; k++) {
                isThere[k] = false;
                address[k] = 0;
                bytes[k].clear();
                more[k] = 0;
            }
            for (int k = 0; k < MARKS; k++) {
                marks[k] = false;
            }
            entry = 0;
        }

        /** How many bytes of memory a segment has. */
        int extent(int k) {
            return k >= 0 && k < SEGMENTS && isThere[k] ? bytes[k].length() + more[k] : 0;
        }

        private boolean isShort(int mark) {
            return (bytes[TEXT].one(2 * mark) & 3) != 3;
        }

        private boolean hasShort() {
            boolean any = false;
            for (int k = 0; k < MARKS; k++) {
                any = any || marks[k] && isShort(k);
            }
            return any;
        }

        private int markBytes() {
            return (bytes[TEXT].length() + 15) / 16;
        }

        private int markByte(int k) {
            int v = 0;
            for (int j = 0; j < 8; j++) {
                int mark = 8 * k + j;
                v |= mark >= 0 && mark < MARKS && marks[mark] ? 1 << j : 0;
            }
            return v;
        }

        private int noteLength() {
            return NOTE_LEAST + (markBytes() + 3) / 4 * 4;
        }

        /** The number, 1 to 5, of what GOOD says first that isn't so; 0 when the image is GOOD. */
        int notGood() {
            if (!hasText()) {
                return 1;
            }
            if (beyondMemory() != NONE) {
                return 2;
            }
            if (meeting() != NONE) {
                return 3;
            }
            if (wrongMark() != NONE) {
                return 4;
            }
            return entryIsMarked() ? 0 : 5;
        }

        private boolean hasText() {
            int n = bytes[TEXT].length();
            return isThere[TEXT] && n > 0 && (n & 1) == 0;
        }

        private int beyondMemory() {
            for (int k = 0; k < SEGMENTS; k++) {
                if (isThere[k] && address[k] + extent(k) > LAST + 1) {
                    return k;
                }
            }
            return NONE;
        }

        /** The first pair of segments that meet: 3 times the one, and the other. */
        private int meeting() {
            for (int j = 0; j < SEGMENTS; j++) {
                for (int k = j + 1; k < SEGMENTS; k++) {
                    if (ObjectFile.meet(address[j], extent(j), address[k], extent(k))) {
                        return 3 * j + k;
                    }
                }
            }
            return NONE;
        }

        private int wrongMark() {
            for (int k = 0; k < MARKS; k++) {
                boolean wide = marks[k] && !isShort(k);
                int end = 2 * k + (wide ? 4 : 2);
                if (marks[k] && (end > bytes[TEXT].length() || wide && k + 1 < MARKS && marks[k + 1])) {
                    return k;
                }
            }
            return NONE;
        }

        private boolean entryIsMarked() {
            int offset = entry - address[TEXT];
            return offset >= 0 && (offset & 1) == 0 && offset / 2 < MARKS && marks[offset / 2];
        }

        private static int rolled(int register, long number, int width) {
            int r = register;
            for (int k = 0; k < 8 * width; k++) {
                int off = (r ^ (int) (number >> k)) & 1;
                r = r >>> 1 ^ (off == 1 ? SUM_BITS : 0);
            }
            return r;
        }

        /** THE SUM. */
        private int sum() {
            int r = rolled(-1, entry, 4);
            for (int s = 0; s < SEGMENTS; s++) {
                if (isThere[s]) {
                    r = rolled(r, address[s], 4);
                    r = rolled(r, more[s], 4);
                    for (int k = 0; k < bytes[s].length(); k++) {
                        r = rolled(r, bytes[s].one(k), 1);
                    }
                }
            }
            for (int k = 0; k < markBytes(); k++) {
                r = rolled(r, markByte(k), 1);
            }
            return ~r;
        }

        /** Writes a GOOD image. */
        void write(Bytes out) {
            out.beginFile(2);
            out.addNumber(entry, 4);
            out.addNumber(HEADER, 4);
            out.addNumber(0, 4);
            out.addNumber(hasShort() ? 1 : 0, 4);
            out.addNumber(HEADER, 2);
            out.addNumber(ROW, 2);
            int there = 1;
            for (int s = 0; s < SEGMENTS; s++) {
                there += isThere[s] ? 1 : 0;
            }
            out.addNumber(there, 2);
            out.addZeros(6);
            out.addZeros(ROW * there);
            int row = HEADER;
            for (int s = 0; s < SEGMENTS; s++) {
                if (isThere[s]) {
                    out.alignTo(PAGE, address[s]);
                    int length = bytes[s].length();
                    writeRow(out, row, OF_SEGMENT, out.length(), address[s], length);
                    out.put(row + 20, length + more[s], 4);
                    out.put(row + 24, RIGHTS[s], 4);
                    out.put(row + 28, PAGE, 4);
                    out.addAll(bytes[s]);
                    row += ROW;
                }
            }
            out.alignTo(4, 0);
            writeRow(out, row, OF_NOTE, out.length(), 0, noteLength());
            out.put(row + 24, 4, 4);
            out.put(row + 28, 4, 4);
            writeNote(out);
        }

        /** The first five numbers of a row of the TABLE. */
        private static void writeRow(Bytes out, int row, int sort, int begin, int address, int length) {
            out.put(row, sort, 4);
            out.put(row + 4, begin, 4);
            out.put(row + 8, address, 4);
            out.put(row + 12, address, 4);
            out.put(row + 16, length, 4);
        }

        private void writeNote(Bytes out) {
            int begin = out.length();
            for (int k = 0; k < NOTE.length; k++) {
                out.add(NOTE[k]);
            }
            out.put(begin + 4, noteLength() - NOTE_HEAD, 4);
            out.addNumber(bytes[TEXT].length() / 2, 4);
            out.addNumber(sum(), 4);
            for (int k = 0; k < markBytes(); k++) {
                out.add(markByte(k));
            }
            out.alignTo(4, begin);
        }

        /** Reads a FILE, which is to be loaded: 0, or the FAULT, and place is its PLACE. */
        int read(Bytes given) {
            file = given;
            fault = 0;
            place = NONE;
            clear();
            boolean good = readHeader() && readTable();
            if (good) {
                fill();
                good = isGoodInMemory() && readNote() && hasGoodMarks();
            }
            if (good && (entry & 1) != 0) {
                fail(31, 24);
            }
            return fault;
        }

        private boolean fail(int number, int where) {
            fault = number;
            place = where;
            return false;
        }

        private boolean isNumber(int at, int width, long low, long high) {
            long v = file.number(at, width);
            return v >= low && v <= high || fail(9, at);
        }

        private boolean readHeader() {
            int head = file.headFault(2);
            if (head != 0) {
                return fail(head >> 16, head & 0xffff);
            }
            if (!isNumber(20, 4, 1, 1)) {
                return false;
            }
            long at = file.number(28, 4);
            if (at < HEADER || (at & 3) != 0) {
                return fail(9, 28);
            }
            if (!isNumber(32, 4, 0, 0) || !isNumber(36, 4, 0, 1) || !isNumber(40, 2, HEADER, HEADER) || !isNumber(42, 2, ROW, ROW)
                    || !isNumber(44, 2, 1, MOST_ROWS) || !isNumber(46, 2, 0, 0) || !isNumber(48, 2, 0, 0) || !isNumber(50, 2, 0, 0)) {
                return false;
            }
            rows = (int) file.number(44, 2);
            if (at + ROW * rows > file.length()) {
                return fail(10, 28);
            }
            table = (int) at;
            return true;
        }

        private long ofRow(int row, int at) {
            return file.number(table + ROW * row + at, 4);
        }

        private boolean failRow(int number, int row, int at) {
            return fail(number, table + ROW * row + at);
        }

        private boolean readTable() {
            for (int k = 0; k <= SEGMENTS; k++) {
                rowOf[k] = NONE;
            }
            for (int r = 0; r < rows; r++) {
                long sort = ofRow(r, 0);
                if (sort != 0 && sort != OF_SEGMENT && sort != OF_NOTE) {
                    return failRow(11, r, 0);
                }
                if (sort != 0 && !(readPlaces(r, sort == OF_NOTE) && readNumbers(r, sort == OF_NOTE) && isApart(r))) {
                    return false;
                }
            }
            return true;
        }

        private boolean readPlaces(int r, boolean note) {
            long begin = ofRow(r, 4);
            long length = ofRow(r, 16);
            if (begin + length > file.length() || length > 0 && begin < HEADER) {
                return failRow(12, r, 4);
            }
            long page = ofRow(r, 28);
            if (page < 1 || page > 4096 || (page & page - 1) != 0) {
                return failRow(13, r, 28);
            }
            long apart = note ? begin & 3 : begin - ofRow(r, 8) & page - 1;
            return apart == 0 || failRow(13, r, 28);
        }

        /** The segment of a row by its rights, SEGMENTS for a NOTE; NONE when they are none. */
        private int sortOf(int r, boolean note) {
            long rights = ofRow(r, 24);
            if (note) {
                return rights == 4 ? SEGMENTS : NONE;
            }
            for (int s = 0; s < SEGMENTS; s++) {
                if (rights == RIGHTS[s]) {
                    return s;
                }
            }
            return NONE;
        }

        private boolean readNumbers(int r, boolean note) {
            int s = sortOf(r, note);
            if (s == NONE || rowOf[s] != NONE) {
                return failRow(14, r, 24);
            }
            rowOf[s] = r;
            long at = ofRow(r, 8);
            if (at > (note ? 0 : LAST)) {
                return failRow(15, r, 8);
            }
            if (ofRow(r, 12) != at) {
                return failRow(16, r, 12);
            }
            long length = ofRow(r, 16);
            if (!note && length > SEGMENT_ROOM) {
                return failRow(17, r, 16);
            }
            long least = note ? 0 : length;
            long all = ofRow(r, 20);
            return all >= least && all <= (s == DATA ? least + MORE_ROOM : least) || failRow(18, r, 20);
        }

        private boolean isApart(int r) {
            long begin = ofRow(r, 4);
            long length = ofRow(r, 16);
            boolean met = ObjectFile.meet(begin, length, table, ROW * rows);
            for (int q = 0; q < r; q++) {
                met = met || ofRow(q, 0) != 0 && ObjectFile.meet(begin, length, ofRow(q, 4), ofRow(q, 16));
            }
            return !met || failRow(19, r, 4);
        }

        /** Takes over what the TABLE tells of the segments. */
        private void fill() {
            entry = (int) file.number(24, 4);
            for (int s = 0; s < SEGMENTS; s++) {
                int r = rowOf[s];
                if (r != NONE) {
                    isThere[s] = true;
                    address[s] = (int) ofRow(r, 8);
                    int begin = (int) ofRow(r, 4);
                    int length = (int) ofRow(r, 16);
                    for (int k = 0; k < length; k++) {
                        bytes[s].add(file.one(begin + k));
                    }
                    more[s] = (int) ofRow(r, 20) - length;
                }
            }
        }

        private boolean isGoodInMemory() {
            if (!hasText()) {
                return fail(21, 44);
            }
            int beyond = beyondMemory();
            if (beyond != NONE) {
                return failRow(22, rowOf[beyond], 20);
            }
            int pair = meeting();
            if (pair != NONE) {
                return failRow(23, Math.max(rowOf[pair / 3], rowOf[pair % 3]), 8);
            }
            return rowOf[SEGMENTS] != NONE || fail(24, 44);
        }

        private boolean readNote() {
            int r = rowOf[SEGMENTS];
            int begin = (int) ofRow(r, 4);
            int length = (int) ofRow(r, 16);
            if (length < NOTE_LEAST) {
                return failRow(25, r, 16);
            }
            for (int at = 0; at < 12; at += 4) {
                if (file.number(begin + at, 4) != (at == 4 ? length - NOTE_HEAD : NOTE[at])) {
                    return fail(25, begin + at);
                }
            }
            for (int k = 12; k < NOTE_HEAD; k++) {
                if (file.one(begin + k) != NOTE[k]) {
                    return fail(25, begin + k);
                }
            }
            if (file.number(begin + 20, 4) != bytes[TEXT].length() / 2) {
                return fail(25, begin + 20);
            }
            if (length != noteLength()) {
                return failRow(25, r, 16);
            }
            return readMarks(begin + NOTE_LEAST, length - NOTE_LEAST);
        }

        private boolean readMarks(int begin, int length) {
            int most = bytes[TEXT].length() / 2;
            for (int k = 0; k < length; k++) {
                int v = file.one(begin + k);
                for (int j = 0; j < 8; j++) {
                    int mark = 8 * k + j;
                    boolean on = (v >> j & 1) != 0;
                    if (on && mark >= most) {
                        return fail(26, begin + k);
                    }
                    if (mark < MARKS) {
                        marks[mark] = on;
                    }
                }
            }
            return true;
        }

        private boolean hasGoodMarks() {
            int note = (int) ofRow(rowOf[SEGMENTS], 4);
            int wrong = wrongMark();
            if (wrong != NONE) {
                return fail(27, note + NOTE_LEAST + wrong / 8);
            }
            if (!entryIsMarked()) {
                return fail(28, 24);
            }
            if ((int) file.number(note + 24, 4) != sum()) {
                return fail(29, note + 24);
            }
            return file.number(36, 4) == (hasShort() ? 1 : 0) || fail(30, 36);
        }
    }

    /** The machine: memory, registers, INPUT and OUTPUT, and the steps that can be taken back. */
    private static final class Machine {
        static final int MEMORY = 131072;
        static final int PC = 32;
        private static final int STATE_REGISTER = 33;
        private static final int SP = 2;
        private static final int GP = 3;
        private static final int A0 = 10;
        private static final int A7 = 17;
        private static final int TOP = 131056;
        private static final int GP_AHEAD = 2048;
        private static final int HALTS = 8;
        private static final int KEPT = 100;
        private static final int MOST_STEPS = 20000;
        private static final int INPUT_ROOM = 1000;
        private static final int OUTPUT_ROOM = 2000;

        private static final int READY = 0;
        private static final int FETCH = 1;
        private static final int ILLEGAL = 2;
        private static final int LOAD = 3;
        private static final int STORE = 4;
        private static final int WILD = 5;
        private static final int BREAK = 6;
        private static final int NO_SERVICE = 7;
        private static final int ENDED = 8;
        private static final int HALTED = 9;

        private static final int READ = 1;
        private static final int WRITE = 2;
        private static final int EXECUTE = 4;
        /** By segments of an image: the rights in the machine. */
        private static final int[] RIGHTS = {5, 1, 3};
        /** From addi on: the kind that does the same with a register for the immediate. */
        private static final int[] WITH_REGISTER = {27, 30, 31, 32, 35, 36, 29, 33, 34};

        /** Columns of what is kept of a step, as it was ahead of it. */
        private static final int WAS_PC = 0;
        private static final int WAS_STATE = 1;
        private static final int WAS_CULPRIT = 2;
        private static final int WAS_VALUE = 3;
        private static final int WAS_UNITS = 4;
        private static final int REGISTER = 5;
        private static final int WAS_IN_REGISTER = 6;
        private static final int ADDRESS = 7;
        private static final int WIDTH = 8;
        private static final int WAS_IN_MEMORY = 9;
        private static final int WAS_OUTPUT = 10;
        private static final int WAS_TAKEN = 11;
        private static final int COLUMNS = 12;

        /** Memory, four bytes in each, the lowest address lowest. */
        private final int[] memory = new int[MEMORY / 4];
        /** Registers 0 .. 31 and PC. */
        final int[] registers = new int[PC + 1];
        final Bytes output = new Bytes(OUTPUT_ROOM);
        int state;
        private int culprit;
        private int value;
        private int steps;
        private int units;
        private final int[] begins = new int[Image.SEGMENTS];
        private final int[] extents = new int[Image.SEGMENTS];
        private boolean marking;
        private final boolean[] marks = new boolean[Image.MARKS];
        private final int[] halts = new int[HALTS];
        private int haltCount;
        private final Bytes input = new Bytes(INPUT_ROOM);
        private int taken;
        private final int[][] kept = new int[KEPT][COLUMNS];
        private int keptCount;
        private final Word word = new Word();

        /** Becomes a new machine with an image in it. */
        void renew(Image image) {
            for (int k = 0; k < MEMORY / 4; k++) {
                memory[k] = 0;
            }
            for (int k = 0; k <= PC; k++) {
                registers[k] = 0;
            }
            for (int s = 0; s < Image.SEGMENTS; s++) {
                begins[s] = image.address[s];
                extents[s] = image.extent(s);
                for (int k = 0; k < image.bytes[s].length(); k++) {
                    write(begins[s] + k, 1, image.bytes[s].one(k));
                }
            }
            for (int k = 0; k < Image.MARKS; k++) {
                marks[k] = image.marks[k];
            }
            marking = true;
            registers[PC] = image.entry;
            registers[SP] = TOP;
            registers[GP] = image.isThere[Image.DATA] ? begins[Image.DATA] + GP_AHEAD : 0;
            output.clear();
            input.clear();
            state = READY;
            culprit = 0;
            value = 0;
            steps = 0;
            units = 0;
            haltCount = 0;
            taken = 0;
            keptCount = 0;
        }

        int rightsOf(int at) {
            for (int s = 0; s < Image.SEGMENTS; s++) {
                if (at >= begins[s] && at - begins[s] < extents[s]) {
                    return RIGHTS[s];
                }
            }
            return 0;
        }

        boolean isMarked(int at) {
            int offset = at - begins[Image.TEXT];
            return at >= 0 && offset >= 0 && (offset & 1) == 0 && offset / 2 < Image.MARKS && marks[offset / 2];
        }

        /** The byte at an address; NONE beyond memory. */
        int byteOf(int at) {
            return at >= 0 && at < MEMORY ? memory[at >> 2] >>> 8 * (at & 3) & 255 : NONE;
        }

        /** A number in memory, without sign; bytes beyond it are 0. */
        private int read(int at, int width) {
            int v = 0;
            for (int k = width - 1; k >= 0; k--) {
                int j = at + k;
                v = v << 8 | (j >= 0 && j < MEMORY ? memory[j >> 2] >>> 8 * (j & 3) & 255 : 0);
            }
            return v;
        }

        private void write(int at, int width, int v) {
            for (int k = 0; k < width; k++) {
                int j = at + k;
                if (j >= 0 && j < MEMORY) {
                    int shift = 8 * (j & 3);
                    memory[j >> 2] = memory[j >> 2] & ~(255 << shift) | (v >> 8 * k & 255) << shift;
                }
            }
        }

        void spell(int at, Bytes row) {
            int bits = read(at, 4);
            word.read(bits);
            word.spell(at, bits, row);
        }

        private boolean isEnd() {
            return state != READY && state != HALTED;
        }

        private void become(int number, int what) {
            state = number;
            culprit = what;
        }

        /** One STEP; false when it is none. */
        boolean advance() {
            if (isEnd()) {
                return false;
            }
            int at = registers[PC];
            if (!mayFetch(at)) {
                return false;
            }
            word.read(read(at, 4));
            if (word.kind == Word.ILLEGAL) {
                become(ILLEGAL, at);
                return false;
            }
            int width = word.kind < Word.SHORT ? 4 : 2;
            word.lengthen();
            if (!mayAccess()) {
                return false;
            }
            keep();
            work(at, at + width);
            return true;
        }

        private boolean mayFetch(int at) {
            int width = 2;
            for (int k = 0; k < width; k++) {
                if ((rightsOf(at + k) & EXECUTE) == 0) {
                    become(FETCH, at + k);
                    return false;
                }
                if (k == 1 && (read(at, 1) & 3) == 3) {
                    width = 4;
                }
            }
            return true;
        }

        private static boolean isLoad(int kind) {
            return kind >= Word.LB && kind <= Word.LHU;
        }

        private static boolean isStore(int kind) {
            return kind >= Word.SB && kind <= Word.SW;
        }

        /** How many bytes a load or store is about. */
        private static int accessWidth(int kind) {
            switch (kind) {
                case Word.LB: case Word.LB + 3: case Word.SB: return 1;
                case Word.LW: case Word.SW: return 4;
                default: return 2;
            }
        }

        private boolean mayAccess() {
            boolean load = isLoad(word.kind);
            if (!load && !isStore(word.kind)) {
                return true;
            }
            int at = registers[word.a] + word.i;
            int width = accessWidth(word.kind);
            boolean good = (at & width - 1) == 0;
            for (int k = 0; k < width; k++) {
                good = good && (rightsOf(at + k) & (load ? READ : WRITE)) != 0;
            }
            if (!good) {
                become(load ? LOAD : STORE, at);
            }
            return good;
        }

        /** Keeps all that the step with this word can change, and counts it. */
        private void keep() {
            int[] row = kept[Math.floorMod(steps, KEPT)];
            boolean unit = !marking || isMarked(registers[PC]);
            boolean store = isStore(word.kind);
            int register = word.kind == Word.ECALL ? A0 : word.d;
            row[WAS_PC] = registers[PC];
            row[WAS_STATE] = state;
            row[WAS_CULPRIT] = culprit;
            row[WAS_VALUE] = value;
            row[WAS_UNITS] = units;
            row[REGISTER] = register;
            row[WAS_IN_REGISTER] = registers[register];
            row[ADDRESS] = registers[word.a] + word.i;
            row[WIDTH] = store ? accessWidth(word.kind) : 0;
            row[WAS_IN_MEMORY] = store ? read(row[ADDRESS], row[WIDTH]) : 0;
            row[WAS_OUTPUT] = output.length();
            row[WAS_TAKEN] = taken;
            steps++;
            units += unit ? 1 : 0;
            keptCount = Math.min(KEPT, keptCount + 1);
            become(READY, 0);
        }

        private void put(int register, int v) {
            if (register > 0 && register < PC) {
                registers[register] = v;
            }
        }

        private void jump(int target) {
            registers[PC] = target;
            if (marking && !isMarked(target)) {
                become(WILD, target);
            }
        }

        /** Does what the word says, which begins at a place and has the next behind it. */
        private void work(int at, int next) {
            int kind = word.kind;
            int x = registers[word.a];
            int y = registers[word.b];
            registers[PC] = next;
            if (kind >= Word.ADD && kind <= Word.REMU) {
                put(word.d, computed(kind, x, y));
            } else if (kind >= Word.ADDI && kind <= Word.SRAI) {
                put(word.d, computed(WITH_REGISTER[kind - Word.ADDI], x, word.i));
            } else if (isLoad(kind)) {
                put(word.d, loaded(kind, x + word.i));
            } else if (isStore(kind)) {
                write(x + word.i, accessWidth(kind), y);
            } else if (kind >= Word.BEQ && kind <= Word.BGEU) {
                if (isSo(kind, x, y)) {
                    jump(at + word.i);
                }
            } else {
                workAlone(kind, at, next, x);
            }
        }

        private void workAlone(int kind, int at, int next, int x) {
            switch (kind) {
                case Word.LUI: put(word.d, word.i << 12); break;
                case Word.AUIPC: put(word.d, at + (word.i << 12)); break;
                case Word.JAL:
                    put(word.d, next);
                    jump(at + word.i);
                    break;
                case Word.JALR:
                    put(word.d, next);
                    jump(x + word.i & ~1);
                    break;
                case Word.FENCE: break;
                case Word.ECALL: serve(at); break;
                default: stay(BREAK, at); break;
            }
        }

        private void stay(int number, int at) {
            registers[PC] = at;
            become(number, at);
        }

        private int loaded(int kind, int at) {
            int v = read(at, accessWidth(kind));
            if (kind == Word.LB) {
                return (byte) v;
            }
            return kind == Word.LB + 1 ? (short) v : v;
        }

        private static boolean isBelow(int x, int y) {
            return (x & 0xffffffffL) < (y & 0xffffffffL);
        }

        private static boolean isSo(int kind, int x, int y) {
            switch (kind - Word.BEQ) {
                case 0: return x == y;
                case 1: return x != y;
                case 2: return x < y;
                case 3: return x >= y;
                case 4: return isBelow(x, y);
                default: return !isBelow(x, y);
            }
        }

        private static int computed(int kind, int x, int y) {
            long ux = x & 0xffffffffL;
            long uy = y & 0xffffffffL;
            switch (kind - Word.ADD) {
                case 0: return x + y;
                case 1: return x - y;
                case 2: return x << (y & 31);
                case 3: return x < y ? 1 : 0;
                case 4: return ux < uy ? 1 : 0;
                case 5: return x ^ y;
                case 6: return x >>> (y & 31);
                case 7: return x >> (y & 31);
                case 8: return x | y;
                case 9: return x & y;
                case 10: return x * y;
                case 11: return (int) ((long) x * y >> 32);
                case 12: return (int) (x * uy >> 32);
                case 13: return (int) (ux * uy >>> 32);
                case 14: return y == 0 ? -1 : (int) ((long) x / y);
                case 15: return y == 0 ? -1 : (int) (ux / uy);
                case 16: return y == 0 ? x : (int) ((long) x % y);
                default: return y == 0 ? x : (int) (ux % uy);
            }
        }

        private void serve(int at) {
            switch (registers[A7]) {
                case 1:
                    boolean room = output.room() > 0;
                    output.add(registers[A0]);
                    registers[A0] = room ? output.length() : -1;
                    break;
                case 2:
                    boolean more = input.has(taken);
                    registers[A0] = more ? input.one(taken) : -1;
                    taken += more ? 1 : 0;
                    break;
                case 3:
                    registers[A0] = steps - 1;
                    break;
                case 10:
                    stay(ENDED, at);
                    value = registers[A0];
                    break;
                default:
                    stay(NO_SERVICE, at);
                    break;
            }
        }

        /** Steps until an end, a HALT, or n UNITS: how many of these it took. */
        int advanceUnits(int n) {
            int before = units;
            for (int k = 0; k <= MOST_STEPS; k++) {
                int at = registers[PC];
                if (isEnd()) {
                    break;
                }
                if (k > 0 && haltAt(at) != NONE) {
                    become(HALTED, at);
                    break;
                }
                boolean unit = !marking || isMarked(at);
                if (unit && units - before >= n || k == MOST_STEPS || !advance()) {
                    break;
                }
            }
            return units - before;
        }

        private int haltAt(int at) {
            for (int k = 0; k < haltCount; k++) {
                if (halts[k] == at) {
                    return k;
                }
            }
            return NONE;
        }

        /** Undoes the last n kept steps: how many there were. */
        int undo(int n) {
            int done = 0;
            while (done < n && keptCount > 0) {
                steps--;
                keptCount--;
                restore(kept[Math.floorMod(steps, KEPT)]);
                done++;
            }
            return done;
        }

        private void restore(int[] row) {
            registers[PC] = row[WAS_PC];
            state = row[WAS_STATE];
            culprit = row[WAS_CULPRIT];
            value = row[WAS_VALUE];
            units = row[WAS_UNITS];
            put(row[REGISTER], row[WAS_IN_REGISTER]);
            write(row[ADDRESS], row[WIDTH], row[WAS_IN_MEMORY]);
            output.shorten(row[WAS_OUTPUT]);
            taken = row[WAS_TAKEN];
        }

        /** Changes a register, PC or the STATE; false when it is refused. */
        boolean change(int r, int v) {
            if (r < 1 || r > STATE_REGISTER || r == PC && (v & 1) != 0) {
                return false;
            }
            if (r == STATE_REGISTER) {
                become(READY, 0);
            } else {
                registers[r] = v;
            }
            keptCount = 0;
            return true;
        }

        boolean fill(int n, long eight) {
            if (!input.addHighest(n, eight)) {
                return false;
            }
            keptCount = 0;
            return true;
        }

        boolean addHalt(int at) {
            if (at < 0 || (at & 1) != 0 || haltAt(at) != NONE || haltCount >= HALTS) {
                return false;
            }
            halts[haltCount] = at;
            haltCount++;
            keptCount = 0;
            return true;
        }

        boolean dropHalt(int at) {
            int k = haltAt(at);
            if (k == NONE) {
                return false;
            }
            haltCount--;
            halts[k] = halts[haltCount];
            keptCount = 0;
            return true;
        }

        int told(int what) {
            switch (what) {
                case 0: return state;
                case 1: return culprit;
                case 2: return value;
                case 3: return steps;
                case 4: return units;
                case 5: return output.length();
                case 6: return input.length() - taken;
                case 7: return keptCount;
                case 8: return haltCount;
                default: return NONE;
            }
        }
    }

    /** Parts and pieces that are laid out, and made smaller until nothing changes. */
    private static final class Layout {
        static final int OUTPUTS = 4;
        static final int PARTS = 32;
        static final int PIECES = 256;
        static final int LABELS = 64;
        private static final int BASE = 65536;
        private static final int GP_AHEAD = 2048;

        /** Sorts of pieces. */
        static final int PLAIN = 0;
        static final int CALL = 1;
        static final int UPPER = 2;
        static final int NEAR = 3;
        static final int FILL = 4;

        /** Rows of parts. */
        private static final int OUTPUT = 0;
        private static final int ALIGNMENT = 1;
        static final int FIRST = 2;
        static final int COUNT = 3;
        static final int BEGIN = 4;
        static final int END = 5;
        /** Rows of pieces: ORIGIN is its place in the section, LENGTH how many bytes it had there. */
        static final int SORT = 0;
        static final int ORIGIN = 1;
        static final int LENGTH = 2;
        static final int SPAN = 3;
        static final int AT = 4;
        static final int LABEL = 5;
        static final int CONSTANT = 6;
        static final int TWO = 7;
        static final int FIXED = 8;
        /** Rows of labels: a part (NONE: put nowhere), the place in it, the VALUE. */
        private static final int PART = 0;
        private static final int OFFSET = 1;
        private static final int VALUE = 2;
        /** By outputs. */
        private static final int[] ALIGNMENTS = {16, 16, 16, 1};

        final int[][] parts = new int[6][PARTS];
        int partCount;
        final int[][] pieces = new int[9][PIECES];
        int pieceCount;
        private final int[][] labels = new int[3][LABELS];
        private int labelCount;
        final int[] begins = new int[OUTPUTS];
        final int[] ends = new int[OUTPUTS];

        void clear() {
            partCount = 0;
            pieceCount = 0;
            labelCount = 0;
        }

        boolean addPart(int output, int alignment) {
            if (partCount >= PARTS) {
                return false;
            }
            parts[OUTPUT][partCount] = output;
            parts[ALIGNMENT][partCount] = alignment;
            parts[FIRST][partCount] = pieceCount;
            parts[COUNT][partCount] = 0;
            parts[BEGIN][partCount] = 0;
            parts[END][partCount] = 0;
            partCount++;
            return true;
        }

        /** Adds a piece to the last part, without a label. */
        boolean addPiece(int sort, int origin, int length) {
            if (pieceCount >= PIECES || partCount <= 0) {
                return false;
            }
            pieces[SORT][pieceCount] = sort;
            pieces[ORIGIN][pieceCount] = origin;
            pieces[LENGTH][pieceCount] = length;
            pieces[SPAN][pieceCount] = length;
            pieces[AT][pieceCount] = 0;
            pieces[LABEL][pieceCount] = NONE;
            pieces[CONSTANT][pieceCount] = 0;
            pieces[TWO][pieceCount] = 0;
            pieces[FIXED][pieceCount] = 0;
            pieceCount++;
            parts[COUNT][partCount - 1]++;
            return true;
        }

        /** Tells what the last piece aims at. */
        void aim(int label, int constant, boolean two) {
            if (pieceCount > 0) {
                pieces[LABEL][pieceCount - 1] = label;
                pieces[CONSTANT][pieceCount - 1] = constant;
                pieces[TWO][pieceCount - 1] = two ? 1 : 0;
            }
        }

        /** A new label at a place of a part, or nowhere; NONE when there are too many. */
        int addLabel(int part, int offset) {
            if (labelCount >= LABELS) {
                return NONE;
            }
            labels[PART][labelCount] = part;
            labels[OFFSET][labelCount] = offset;
            labels[VALUE][labelCount] = 0;
            labelCount++;
            return labelCount - 1;
        }

        int gp() {
            return begins[2] + GP_AHEAD;
        }

        private static int aligned(int at, int power) {
            return at + (-at & power - 1);
        }

        /** Works out all places by the sizes. */
        void arrange() {
            int at = BASE;
            for (int o = 0; o < OUTPUTS; o++) {
                at = aligned(at, ALIGNMENTS[o]);
                begins[o] = at;
                for (int p = 0; p < partCount; p++) {
                    if (parts[OUTPUT][p] == o) {
                        at = arrangePart(p, aligned(at, parts[ALIGNMENT][p]));
                    }
                }
                ends[o] = at;
            }
            for (int k = 0; k < labelCount; k++) {
                labels[VALUE][k] = placeIn(labels[PART][k], labels[OFFSET][k]);
            }
        }

        private int arrangePart(int p, int begin) {
            int at = begin;
            int last = Math.min(parts[FIRST][p] + parts[COUNT][p], PIECES);
            for (int k = parts[FIRST][p]; k < last; k++) {
                pieces[AT][k] = at;
                if (pieces[SORT][k] == FILL) {
                    pieces[SPAN][k] = Math.min(pieces[LENGTH][k], lack(k));
                }
                at += pieces[SPAN][k];
            }
            parts[BEGIN][p] = begin;
            parts[END][p] = at;
            return at;
        }

        /** How many bytes a FILL should have: up to a multiple of the least power of two above its bytes. */
        private int lack(int k) {
            int power = 1;
            while (power <= pieces[LENGTH][k] && power < 4096) {
                power <<= 1;
            }
            return -pieces[AT][k] & power - 1;
        }

        /** The first FILL that is SHORT; NONE without one. */
        int shortFill() {
            for (int k = 0; k < pieceCount; k++) {
                if (pieces[SORT][k] == FILL && lack(k) > pieces[LENGTH][k]) {
                    return k;
                }
            }
            return NONE;
        }

        /** The piece of a part in which the bytes from a place of the section on are; NONE when none has bytes there. */
        int pieceWith(int part, int offset) {
            if (part < 0 || part >= partCount) {
                return NONE;
            }
            for (int k = parts[FIRST][part]; k < parts[FIRST][part] + parts[COUNT][part] && k < PIECES; k++) {
                if (offset >= pieces[ORIGIN][k] && offset < pieces[ORIGIN][k] + pieces[LENGTH][k]) {
                    return k;
                }
            }
            return NONE;
        }

        /** Where a place of a part's section is now. */
        int placeIn(int part, int offset) {
            if (part < 0 || part >= partCount) {
                return 0;
            }
            int k = pieceWith(part, offset);
            if (k == NONE) {
                return parts[END][part];
            }
            int within = offset - pieces[ORIGIN][k];
            boolean known = within == 0 || pieces[SORT][k] == PLAIN;
            return pieces[AT][k] + (known ? within : pieces[SPAN][k]);
        }

        private static boolean isLow(long v) {
            return v >= -2048 && v <= 2047;
        }

        private boolean isFlexible(int k) {
            return pieces[SORT][k] >= CALL && pieces[SORT][k] <= NEAR;
        }

        /** The LEAST size of a CALL, UPPER or NEAR by the places as they are. */
        private int least(int k) {
            int sort = pieces[SORT][k];
            int label = pieces[LABEL][k];
            if (label < 0 || label >= labelCount || labels[PART][label] == NONE) {
                return pieces[LENGTH][k];
            }
            long aim = (long) labels[VALUE][label] + pieces[CONSTANT][k];
            boolean two = pieces[TWO][k] != 0;
            if (sort == CALL) {
                long way = aim - pieces[AT][k];
                if ((way & 1) != 0) {
                    return 8;
                }
                if (two && way >= -2048 && way <= 2046) {
                    return 2;
                }
                return way >= -1048576 && way <= 1048574 ? 4 : 8;
            }
            if (isLow(aim) || isLow(aim - gp())) {
                return 0;
            }
            long upper = aim + 2048 >> 12;
            return sort == UPPER && two && upper >= 1 && upper <= 31 ? 2 : 4;
        }

        /** Makes pieces smaller until nothing changes, and those FIXED that don't hold. */
        void settle() {
            shrink();
            for (int round = 0; round < PIECES && fixAll(); round++) {
                shrink();
            }
        }

        private void shrink() {
            boolean changed = true;
            for (int pass = 0; pass < 4 * PIECES && changed; pass++) {
                arrange();
                changed = false;
                for (int k = 0; k < pieceCount; k++) {
                    if (isFlexible(k) && pieces[FIXED][k] == 0 && least(k) < pieces[SPAN][k]) {
                        pieces[SPAN][k] = least(k);
                        changed = true;
                    }
                }
            }
        }

        /** Gives all pieces that don't HOLD their greatest size; false when there are none. */
        private boolean fixAll() {
            boolean any = false;
            for (int k = 0; k < pieceCount; k++) {
                if (isFlexible(k) && pieces[SPAN][k] < least(k)) {
                    pieces[SPAN][k] = pieces[LENGTH][k];
                    pieces[FIXED][k] = 1;
                    any = true;
                }
            }
            return any;
        }

        int fixed() {
            int n = 0;
            for (int k = 0; k < pieceCount; k++) {
                n += pieces[FIXED][k];
            }
            return n;
        }

        int saved() {
            int n = 0;
            for (int k = 0; k < pieceCount; k++) {
                n += isFlexible(k) ? pieces[LENGTH][k] - pieces[SPAN][k] : 0;
            }
            return n;
        }
    }

    /** The names of symbols that aren't local, and what they are DEFINED as. */
    private static final class Globals {
        static final int ROOM = 600;
        /** Rows. */
        static final int SORT = 0;
        static final int OWNER = 1;
        static final int NUMBER = 2;
        private static final int WEAK_OWNER = 3;
        private static final int WEAK_NUMBER = 4;
        static final int EXTENT = 5;
        static final int ALIGNMENT = 6;
        private static final int NEEDED = 7;
        static final int PART = 8;
        static final int LABEL = 9;
        static final int AT = 10;
        /** Sorts: by a symbol (OWNER, NUMBER), common, a name of the linker's (NUMBER), 0, or not DEFINED. */
        static final int UNDEFINED = 0;
        static final int BY_SYMBOL = 1;
        static final int COMMON = 2;
        static final int SPECIAL = 3;
        static final int ZERO = 4;
        private static final String SPECIALS = "_gp _etext _edata _bss _end";

        final long[][] names = new long[2][ROOM];
        final int[][] rows = new int[11][ROOM];
        /** By units and symbols: the global of one that isn't local. */
        final int[][] of = new int[UNITS][Contents.SYMBOLS];
        int count;

        int find(long high, long low) {
            for (int g = 0; g < count; g++) {
                if (names[0][g] == high && names[1][g] == low) {
                    return g;
                }
            }
            return NONE;
        }

        private int intern(long high, long low) {
            int g = find(high, low);
            if (g != NONE || count >= ROOM) {
                return g;
            }
            names[0][count] = high;
            names[1][count] = low;
            for (int row = 0; row <= AT; row++) {
                rows[row][count] = 0;
            }
            rows[WEAK_OWNER][count] = NONE;
            rows[LABEL][count] = NONE;
            rows[PART][count] = NONE;
            count++;
            return count - 1;
        }

        /** Takes a symbol that isn't local; false when it defines its name a second time. */
        boolean addSymbol(int u, int s, Contents contents) {
            int g = intern(contents.names[0][s], contents.names[1][s]);
            if (g == NONE) {
                return true;
            }
            of[u][s] = g;
            int where = contents.symbols[Contents.WHERE][s];
            boolean weak = contents.symbols[Contents.BIND][s] == Contents.WEAK;
            if (!weak) {
                rows[NEEDED][g] = 1;
            }
            if (where == Contents.COMMON) {
                rows[EXTENT][g] = Math.max(rows[EXTENT][g], contents.symbols[Contents.EXTENT][s]);
                rows[ALIGNMENT][g] = Math.max(rows[ALIGNMENT][g], contents.symbols[Contents.VALUE][s]);
            } else if (where != Contents.NOWHERE && weak) {
                if (rows[WEAK_OWNER][g] == NONE) {
                    rows[WEAK_OWNER][g] = u;
                    rows[WEAK_NUMBER][g] = s;
                }
            } else if (where != Contents.NOWHERE) {
                if (rows[SORT][g] == BY_SYMBOL) {
                    return false;
                }
                rows[SORT][g] = BY_SYMBOL;
                rows[OWNER][g] = u;
                rows[NUMBER][g] = s;
            }
            return true;
        }

        /** What names are DEFINED as when all symbols have been taken. */
        void decide() {
            for (int g = 0; g < count; g++) {
                int special = Bytes.wordAt(SPECIALS, names[0][g], names[1][g]);
                if (rows[SORT][g] == BY_SYMBOL) {
                    continue;
                }
                if (rows[EXTENT][g] > 0) {
                    rows[SORT][g] = COMMON;
                } else if (rows[WEAK_OWNER][g] != NONE) {
                    rows[SORT][g] = BY_SYMBOL;
                    rows[OWNER][g] = rows[WEAK_OWNER][g];
                    rows[NUMBER][g] = rows[WEAK_NUMBER][g];
                } else if (special != NONE) {
                    rows[SORT][g] = SPECIAL;
                    rows[NUMBER][g] = special;
                } else {
                    rows[SORT][g] = rows[NEEDED][g] == 0 ? ZERO : UNDEFINED;
                }
            }
        }
    }

    /** Links units: DEFINES their globals, lays their sections out, and puts the numbers in that relocations ask for. */
    private static final class Linker {
        private static final String START = "_start";
        private static final int BEYOND_DATA = 32768;
        private static final int ZERO = 0;
        private static final int GP = 3;
        private static final int NOP = 0x13;

        int fault;
        int unit = NONE;
        int number = NONE;
        int fixed;
        int saved;
        private final Contents[] objects = new Contents[UNITS];
        /** The numbers of the units that are linked. */
        private final int[] units = new int[UNITS];
        private int unitCount;
        private boolean shrinks;
        private Globals globals = new Globals();
        /** The globals of the latest link without a fault. */
        private Globals known = new Globals();
        private final Layout layout = new Layout();
        private final Image image = new Image();
        private final Word word = new Word();
        /** By relocations: the piece that it became (or NONE), and 1 when a 51 stands at its place. */
        private final int[][] own = new int[UNITS][Contents.RELOCATIONS];
        private final int[][] eased = new int[UNITS][Contents.RELOCATIONS];
        /** By local symbols: the label (or NONE). */
        private final int[][] labels = new int[UNITS][Contents.SYMBOLS];
        /** By symbols: where it is, or its number. */
        private final int[][] spots = new int[UNITS][Contents.SYMBOLS];
        /** The relocations of a unit that may become pieces, by rising places. */
        private final int[] order = new int[Contents.RELOCATIONS];

        Linker() {
            for (int u = 0; u < UNITS; u++) {
                objects[u] = new Contents();
            }
        }

        /** Links the units of a set and writes the image: 0, or the LINK FAULT. */
        int join(Bytes[] files, int set, boolean shrinking, ObjectFile reader, Bytes out) {
            fault = 0;
            unit = NONE;
            number = NONE;
            shrinks = shrinking;
            unitCount = 0;
            for (int k = 0; k < UNITS && k < files.length && fault == 0; k++) {
                if ((set >> k & 1) != 0) {
                    units[unitCount] = k;
                    tellReading(k, files[k].length() == 0 ? NONE : reader.read(files[k], objects[unitCount]));
                    unitCount++;
                }
            }
            if (fault == 0 && resolve() && addParts() && layOut() && relocateAll() && finish(out)) {
                fixed = layout.fixed();
                saved = layout.saved();
                Globals before = known;
                known = globals;
                globals = before;
            }
            return fault;
        }

        private boolean fail(int which, int u, int what) {
            fault = which;
            unit = u == NONE ? NONE : units[u];
            number = what;
            return false;
        }

        /** A unit without a FILE (NONE), or with a FAULT in it, can't be linked. */
        private void tellReading(int k, int wrong) {
            if (wrong != 0) {
                fault = wrong == NONE ? 1 : 2;
                unit = k;
                number = wrong;
            }
        }

        private boolean resolve() {
            globals.count = 0;
            for (int u = 0; u < unitCount; u++) {
                for (int s = 0; s < objects[u].symbolCount; s++) {
                    if (!objects[u].isLocal(s) && !globals.addSymbol(u, s, objects[u])) {
                        return fail(3, u, s);
                    }
                }
            }
            globals.decide();
            for (int u = 0; u < unitCount; u++) {
                for (int s = 0; s < objects[u].symbolCount; s++) {
                    boolean needed = objects[u].symbols[Contents.BIND][s] == Contents.GLOBAL;
                    if (needed && globals.rows[Globals.SORT][globals.of[u][s]] == Globals.UNDEFINED) {
                        return fail(4, u, s);
                    }
                }
            }
            int start = startGlobal();
            boolean good = start != NONE && globals.rows[Globals.SORT][start] == Globals.BY_SYMBOL
                && whereOf(definerOf(start)) == Contents.TEXT;
            return good || fail(5, NONE, NONE);
        }

        private int startGlobal() {
            return globals.find(Bytes.halfOfWord(START, 0, 0), Bytes.halfOfWord(START, 0, 1));
        }

        /** The symbol by which a global is DEFINED, as a unit's place times SYMBOLS and its number; NONE without one. */
        private int definerOf(int g) {
            if (globals.rows[Globals.SORT][g] != Globals.BY_SYMBOL) {
                return NONE;
            }
            return globals.rows[Globals.OWNER][g] * Contents.SYMBOLS + globals.rows[Globals.NUMBER][g];
        }

        /** The symbol as which one of a unit is DEFINED: a local one as itself. */
        private int definer(int u, int s) {
            return objects[u].isLocal(s) ? u * Contents.SYMBOLS + s : definerOf(globals.of[u][s]);
        }

        private int whereOf(int definer) {
            return definer < 0 ? Contents.NOWHERE : objects[definer / Contents.SYMBOLS].symbols[Contents.WHERE][definer % Contents.SYMBOLS];
        }

        private int valueOf(int definer) {
            return definer < 0 ? 0 : objects[definer / Contents.SYMBOLS].symbols[Contents.VALUE][definer % Contents.SYMBOLS];
        }

        private static int partOf(int u, int section) {
            return Contents.SECTIONS * u + section;
        }

        private boolean addParts() {
            layout.clear();
            int part = partOf(unitCount, 0);
            for (int g = 0; g < globals.count; g++) {
                if (globals.rows[Globals.SORT][g] == Globals.COMMON) {
                    globals.rows[Globals.PART][g] = part;
                    part++;
                }
            }
            for (int u = 0; u < unitCount; u++) {
                clearMaps(u);
                for (int s = 0; s < Contents.SECTIONS; s++) {
                    if (!layout.addPart(s, objects[u].alignment[s])) {
                        return fail(6, NONE, NONE);
                    }
                    if (!(s == Contents.TEXT ? addText(u) : addPlain(0, objects[u].extent(s)))) {
                        return false;
                    }
                }
            }
            for (int g = 0; g < globals.count; g++) {
                if (globals.rows[Globals.SORT][g] == Globals.COMMON) {
                    boolean good = layout.addPart(Contents.BSS, globals.rows[Globals.ALIGNMENT][g]);
                    if (!good || !addPlain(0, globals.rows[Globals.EXTENT][g])) {
                        return fail(6, NONE, NONE);
                    }
                }
            }
            return true;
        }

        private void clearMaps(int u) {
            Contents o = objects[u];
            for (int s = 0; s < Contents.SYMBOLS; s++) {
                labels[u][s] = NONE;
            }
            for (int r = 0; r < o.relocationCount; r++) {
                own[u][r] = NONE;
                eased[u][r] = 0;
                for (int q = 0; q < o.relocationCount; q++) {
                    boolean same = o.relocations[Contents.PLACE][q] == o.relocations[Contents.PLACE][r];
                    if (same && o.relocations[Contents.KIND][q] == Contents.EASED && o.relocations[Contents.SECTION][r] == Contents.TEXT) {
                        eased[u][r] = 1;
                    }
                }
            }
        }

        private boolean addPlain(int origin, int length) {
            return layout.addPiece(Layout.PLAIN, origin, length) || fail(6, NONE, NONE);
        }

        private boolean mayBePiece(int u, int r) {
            int kind = objects[u].relocations[Contents.KIND][r];
            if (kind == Contents.ALIGNED) {
                return objects[u].relocations[Contents.ADDEND][r] > 0;
            }
            return (kind == 19 || kind == 23 || kind == 26) && eased[u][r] != 0;
        }

        /** Puts the relocations that may become pieces in order: how many. */
        private int orderRelocations(int u) {
            int[] places = objects[u].relocations[Contents.PLACE];
            int n = 0;
            for (int r = 0; r < objects[u].relocationCount; r++) {
                if (mayBePiece(u, r)) {
                    int k = n;
                    while (k > 0 && places[order[k - 1]] > places[r]) {
                        order[k] = order[k - 1];
                        k--;
                    }
                    order[k] = r;
                    n++;
                }
            }
            return n;
        }

        private boolean addText(int u) {
            Contents o = objects[u];
            int n = orderRelocations(u);
            int end = 0;
            for (int k = 0; k < n; k++) {
                int r = order[k];
                int at = o.relocations[Contents.PLACE][r];
                if (at < end) {
                    continue;
                }
                if (at > end && !addPlain(end, at - end) || !addTaken(u, r, at)) {
                    return false;
                }
                end = at + Contents.width(o.relocations[Contents.KIND][r], o.relocations[Contents.ADDEND][r]);
            }
            int rest = o.extent(Contents.TEXT) - end;
            return end > 0 && rest == 0 || addPlain(end, rest);
        }

        /** Makes a piece of a relocation. */
        private boolean addTaken(int u, int r, int at) {
            Contents o = objects[u];
            int kind = o.relocations[Contents.KIND][r];
            int addend = o.relocations[Contents.ADDEND][r];
            own[u][r] = layout.pieceCount;
            if (kind == Contents.ALIGNED) {
                return layout.addPiece(Layout.FILL, at, addend) || fail(6, NONE, NONE);
            }
            Bytes bytes = o.bytes[Contents.TEXT];
            word.read((int) bytes.number(at, 4));
            boolean good = word.kind == (kind == 26 ? Word.LUI : Word.AUIPC);
            boolean two = word.d != 0 && word.d != 2;
            if (kind == 19) {
                word.read((int) bytes.number(at + 4, 4));
                good = good && word.kind == Word.JALR;
                two = word.d <= 1;
            }
            if (!good) {
                return fail(7, u, r);
            }
            int label = labelOf(u, o.relocations[Contents.SYMBOL][r]);
            int sort = kind == 19 ? Layout.CALL : kind == 23 ? Layout.NEAR : Layout.UPPER;
            if (label == NONE || !layout.addPiece(sort, at, kind == 19 ? 8 : 4)) {
                return fail(6, NONE, NONE);
            }
            layout.aim(label, addend, two && o.shortStarts() > 0);
            return true;
        }

        /** The label of a symbol that is aimed at; NONE when there are too many. */
        private int labelOf(int u, int s) {
            boolean local = objects[u].isLocal(s);
            int g = local ? NONE : globals.of[u][s];
            int label = local ? labels[u][s] : globals.rows[Globals.LABEL][g];
            if (label != NONE) {
                return label;
            }
            int definer = definer(u, s);
            if (definer != NONE && whereOf(definer) < Contents.SECTIONS) {
                label = layout.addLabel(partOf(definer / Contents.SYMBOLS, whereOf(definer)), valueOf(definer));
            } else {
                label = layout.addLabel(local ? NONE : globals.rows[Globals.PART][g], 0);
            }
            if (local) {
                labels[u][s] = label;
            } else {
                globals.rows[Globals.LABEL][g] = label;
            }
            return label;
        }

        private boolean layOut() {
            if (shrinks) {
                layout.settle();
            } else {
                layout.arrange();
            }
            int bad = layout.shortFill();
            for (int u = 0; u < unitCount; u++) {
                for (int r = 0; r < objects[u].relocationCount; r++) {
                    if (bad != NONE && own[u][r] == bad) {
                        return fail(8, u, r);
                    }
                }
            }
            for (int o = 0; o < Contents.BSS; o++) {
                if (layout.ends[o] - layout.begins[o] > Image.SEGMENT_ROOM) {
                    return fail(6, NONE, NONE);
                }
            }
            return layout.ends[Contents.BSS] - layout.ends[Contents.BSS - 1] <= BEYOND_DATA || fail(6, NONE, NONE);
        }

        /** Where a global is, or its number. */
        private int spotOf(int g) {
            int definer = definerOf(g);
            if (definer != NONE) {
                return spotOfDefiner(definer);
            }
            if (globals.rows[Globals.SORT][g] == Globals.COMMON) {
                return layout.placeIn(globals.rows[Globals.PART][g], 0);
            }
            if (globals.rows[Globals.SORT][g] != Globals.SPECIAL) {
                return 0;
            }
            switch (globals.rows[Globals.NUMBER][g]) {
                case 0: return layout.gp();
                case 1: return layout.ends[0];
                case 2: return layout.ends[2];
                case 3: return layout.begins[3];
                default: return layout.ends[3];
            }
        }

        private int spotOfDefiner(int definer) {
            int where = whereOf(definer);
            if (where >= Contents.SECTIONS) {
                return valueOf(definer);
            }
            return layout.placeIn(partOf(definer / Contents.SYMBOLS, where), valueOf(definer));
        }

        /** Notes where all symbols are by the places as they are. */
        private void findSpots() {
            for (int g = 0; g < globals.count; g++) {
                globals.rows[Globals.AT][g] = spotOf(g);
            }
            for (int u = 0; u < unitCount; u++) {
                for (int s = 0; s < objects[u].symbolCount; s++) {
                    spots[u][s] = objects[u].isLocal(s) ? spotOfDefiner(definer(u, s)) : globals.rows[Globals.AT][globals.of[u][s]];
                }
            }
        }

        /** Where the symbol of a relocation is, and the addend. */
        private long aimOf(int u, int r) {
            int s = objects[u].relocations[Contents.SYMBOL][r];
            return s < 0 || s >= Contents.SYMBOLS ? 0 : (long) spots[u][s] + objects[u].relocations[Contents.ADDEND][r];
        }

        /** Fills the image with the sections' bytes, and relocates them. */
        private boolean relocateAll() {
            findSpots();
            image.clear();
            for (int o = 0; o < Contents.BSS; o++) {
                image.bytes[o].addZeros(layout.ends[o] - layout.begins[o]);
                for (int u = 0; u < unitCount; u++) {
                    copyPart(u, o);
                }
            }
            for (int u = 0; u < unitCount; u++) {
                for (int r = 0; r < objects[u].relocationCount; r++) {
                    if (!relocate(u, r)) {
                        return false;
                    }
                }
            }
            return true;
        }

        private void copyPart(int u, int section) {
            int part = partOf(u, section);
            int first = layout.parts[Layout.FIRST][part];
            int last = Math.min(first + layout.parts[Layout.COUNT][part], Layout.PIECES);
            for (int p = first; p < last; p++) {
                int length = layout.pieces[Layout.LENGTH][p];
                if (layout.pieces[Layout.SORT][p] != Layout.FILL && layout.pieces[Layout.SPAN][p] == length) {
                    int to = layout.pieces[Layout.AT][p] - layout.begins[section];
                    int from = layout.pieces[Layout.ORIGIN][p];
                    for (int k = 0; k < length; k++) {
                        image.bytes[section].put(to + k, objects[u].bytes[section].one(from + k), 1);
                    }
                }
            }
        }

        /** How many bytes a relocation is about now. */
        private int spanOf(int u, int r) {
            int[][] relocations = objects[u].relocations;
            int piece = own[u][r];
            if (piece >= 0 && piece < Layout.PIECES) {
                return layout.pieces[Layout.SPAN][piece];
            }
            return Contents.width(relocations[Contents.KIND][r], relocations[Contents.ADDEND][r]);
        }

        /** Whether a relocation became a piece, or all its bytes are in a PLAIN one. */
        private boolean isInPlace(int u, int r, int section, int at) {
            if (own[u][r] != NONE) {
                return true;
            }
            int p = layout.pieceWith(partOf(u, section), at);
            return p != NONE && layout.pieces[Layout.SORT][p] == Layout.PLAIN
                && at + spanOf(u, r) <= layout.pieces[Layout.ORIGIN][p] + layout.pieces[Layout.LENGTH][p];
        }

        private boolean relocate(int u, int r) {
            int section = objects[u].relocations[Contents.SECTION][r];
            int kind = objects[u].relocations[Contents.KIND][r];
            int from = objects[u].relocations[Contents.PLACE][r];
            if (kind == Contents.EASED || kind == Contents.ALIGNED && objects[u].relocations[Contents.ADDEND][r] == 0) {
                return true;
            }
            if (!isInPlace(u, r, section, from)) {
                return fail(7, u, r);
            }
            int place = layout.placeIn(partOf(u, section), from);
            int at = place - layout.begins[section];
            long v = aimOf(u, r);
            switch (kind) {
                case 16: case 17: case 44: case 45: return putTarget(u, r, at, v - place);
                case 19: return putCall(u, r, at, v - place);
                case 23: return putUpper(u, r, at, v - place);
                case 24: case 25: return putNearLow(u, r, at);
                case 26: return putUpper(u, r, at, v);
                case 27: case 28: return putLow(u, r, at, v);
                case Contents.ALIGNED:
                    putFill(at, spanOf(u, r));
                    return true;
                default:
                    putData(image.bytes[section], at, kind, v);
                    return true;
            }
        }

        private static void putData(Bytes row, int at, int kind, long v) {
            int width = Contents.width(kind, 0);
            if (kind == 1) {
                row.put(at, v, width);
            } else {
                row.put(at, row.number(at, width) + (kind < 37 ? v : -v), width);
            }
        }

        private void putFill(int at, int length) {
            Bytes row = image.bytes[Contents.TEXT];
            int whole = length & ~3;
            for (int k = 0; k < whole; k += 4) {
                row.put(at + k, NOP, 4);
            }
            for (int k = whole; k < length; k++) {
                row.put(at + k, k == whole ? 1 : 0, 1);
            }
        }

        /** Takes the word of an image's TEXT at an offset. */
        private void readWord(int at) {
            word.read((int) image.bytes[Contents.TEXT].number(at, 4));
        }

        private void putWord(int at) {
            int bits = Word.make(word.kind, word.d, word.a, word.b, word.i);
            image.bytes[Contents.TEXT].put(at, bits, word.kind < Word.SHORT ? 4 : 2);
        }

        private static boolean isInt(long v) {
            return v == (int) v;
        }

        private static boolean isLow(long v) {
            return v >= -2048 && v <= 2047;
        }

        private static int upper(long v) {
            return (int) (v + 2048 >> 12) & 0xfffff;
        }

        private static int lower(long v) {
            return (int) v << 20 >> 20;
        }

        /** Whether a word of a kind can have a relocation. */
        private static boolean fits(int relocation, int kind) {
            switch (relocation) {
                case 16: return kind >= Word.BEQ && kind <= Word.BGEU;
                case 17: return kind == Word.JAL;
                case 44: return kind == Word.C_BEQZ || kind == Word.C_BNEZ;
                case 45: return kind == Word.C_JAL || kind == Word.C_J;
                case 24: case 27: return kind >= Word.ADDI && kind <= Word.ANDI || kind >= Word.LB && kind <= Word.LHU || kind == Word.JALR;
                default: return kind >= Word.SB && kind <= Word.SW;
            }
        }

        private int kindOf(int u, int r) {
            return objects[u].relocations[Contents.KIND][r];
        }

        private boolean putTarget(int u, int r, int at, long way) {
            readWord(at);
            if (!fits(kindOf(u, r), word.kind)) {
                return fail(7, u, r);
            }
            if (!Word.mayHave(word.kind, way)) {
                return fail(8, u, r);
            }
            word.i = (int) way;
            putWord(at);
            return true;
        }

        /** The word that a piece's relocation had in its section. */
        private void readOriginal(int u, int r, int ahead) {
            word.read((int) objects[u].bytes[Contents.TEXT].number(objects[u].relocations[Contents.PLACE][r] + ahead, 4));
        }

        private boolean putCall(int u, int r, int at, long way) {
            int span = spanOf(u, r);
            if (span < 8) {
                readOriginal(u, r, 4);
                int kind = span == 4 ? Word.JAL : word.d == 1 ? Word.C_JAL : Word.C_J;
                return putShrunk(u, r, at, kind, way);
            }
            readWord(at);
            if (word.kind != Word.AUIPC) {
                return fail(7, u, r);
            }
            if (!isInt(way)) {
                return fail(8, u, r);
            }
            word.i = upper(way);
            putWord(at);
            readWord(at + 4);
            if (word.kind != Word.JALR) {
                return fail(7, u, r);
            }
            word.i = lower(way);
            putWord(at + 4);
            return true;
        }

        /** Puts the smaller word for the one that was read, with its d and another immediate. */
        private boolean putShrunk(int u, int r, int at, int kind, long i) {
            if (!Word.mayHave(kind, i)) {
                return fail(8, u, r);
            }
            word.kind = kind;
            word.i = (int) i;
            putWord(at);
            return true;
        }

        /** The word of a 23 or 26: the upper bits of a number. */
        private boolean putUpper(int u, int r, int at, long v) {
            int span = spanOf(u, r);
            if (span == 0) {
                return true;
            }
            if (span == 2) {
                readOriginal(u, r, 0);
                return isInt(v) ? putShrunk(u, r, at, Word.C_LUI, upper(v)) : fail(8, u, r);
            }
            readWord(at);
            if (word.kind != (kindOf(u, r) == 26 ? Word.LUI : Word.AUIPC)) {
                return fail(7, u, r);
            }
            if (!isInt(v)) {
                return fail(8, u, r);
            }
            word.i = upper(v);
            putWord(at);
            return true;
        }

        /** The word at an offset has a number from 0 or from gp, if that can be. */
        private boolean putDirect(int at, long v) {
            boolean fromZero = isLow(v);
            if (!fromZero && !isLow(v - layout.gp())) {
                return false;
            }
            word.a = fromZero ? ZERO : GP;
            word.i = (int) (fromZero ? v : v - layout.gp());
            putWord(at);
            return true;
        }

        private boolean putLow(int u, int r, int at, long v) {
            readWord(at);
            if (!fits(kindOf(u, r), word.kind)) {
                return fail(7, u, r);
            }
            if (!shrinks || eased[u][r] == 0 || !putDirect(at, v)) {
                word.i = lower(v);
                putWord(at);
            }
            return true;
        }

        /** The first 23 at the place of the symbol of a 24 or 25; NONE without one. */
        private int partnerOf(int u, int r) {
            Contents o = objects[u];
            int s = o.relocations[Contents.SYMBOL][r];
            int definer = s < 0 || s >= Contents.SYMBOLS ? NONE : definer(u, s);
            boolean good = definer != NONE && definer / Contents.SYMBOLS == u && whereOf(definer) == Contents.TEXT;
            if (!good || o.relocations[Contents.ADDEND][r] != 0) {
                return NONE;
            }
            for (int q = 0; q < o.relocationCount; q++) {
                if (o.relocations[Contents.KIND][q] == 23 && o.relocations[Contents.PLACE][q] == valueOf(definer)) {
                    return q;
                }
            }
            return NONE;
        }

        private boolean putNearLow(int u, int r, int at) {
            int partner = partnerOf(u, r);
            if (partner == NONE) {
                return fail(7, u, r);
            }
            readWord(at);
            if (!fits(kindOf(u, r), word.kind)) {
                return fail(7, u, r);
            }
            long v = aimOf(u, partner);
            if (spanOf(u, partner) == 0) {
                return putDirect(at, v) || fail(8, u, r);
            }
            word.i = lower(v - layout.placeIn(partOf(u, Contents.TEXT), objects[u].relocations[Contents.PLACE][partner]));
            putWord(at);
            return true;
        }

        /** Makes the image of what has been relocated, and writes it. */
        private boolean finish(Bytes out) {
            for (int o = 0; o < Contents.BSS; o++) {
                image.address[o] = layout.begins[o];
                image.isThere[o] = image.bytes[o].length() > 0;
            }
            image.isThere[Image.TEXT] = true;
            image.more[Image.DATA] = layout.ends[Contents.BSS] - layout.ends[Image.DATA];
            image.isThere[Image.DATA] = image.isThere[Image.DATA] || image.more[Image.DATA] > 0;
            for (int u = 0; u < unitCount; u++) {
                for (int k = 0; k < objects[u].startCount; k++) {
                    int at = layout.placeIn(partOf(u, Contents.TEXT), objects[u].starts[k]) - layout.begins[Contents.TEXT];
                    if ((at & 1) == 0 && at >= 0 && at < image.bytes[Image.TEXT].length() && at / 2 < Image.MARKS) {
                        image.marks[at / 2] = true;
                    }
                }
            }
            int start = startGlobal();
            image.entry = start == NONE ? 0 : globals.rows[Globals.AT][start];
            int bad = image.notGood();
            if (bad != 0) {
                return fail(9, NONE, -bad);
            }
            image.write(out);
            return true;
        }

        /** The known global of a name whose characters are the bytes of two numbers that aren't 0; NONE without one. */
        int knownGlobal(long first, long second) {
            long high = 0;
            long low = 0;
            int n = 0;
            for (int k = 0; k < 16; k++) {
                long c = Bytes.nameByte(first, second, k);
                if (c != 0) {
                    high |= n < 8 ? c << 56 - 8 * n : 0;
                    low |= n < 8 ? 0 : c << 56 - 8 * (n & 7);
                    n++;
                }
            }
            return known.find(high, low);
        }

        int knownPlace(int g) {
            return g >= 0 && g < Globals.ROOM ? known.rows[Globals.AT][g] : 0;
        }
    }
}
