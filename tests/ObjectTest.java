/** Promises 12 and 13, and section 3: how objects are written, read, and what is at fault with them. */
public final class ObjectTest {
    private static final String TEXT = "l: nop\nadd a0, a1, a2\ncall g\nla a0, c\n.align 3\n.word g\n"
        + ".rodata\n.align 2\n.byte 7\nabcg: .word l, 5\n.data\n.word g, abcg\n.bss\n.zero 9\n.globl g\n.globl l2\nl2:\n.comm c, 12, 4\n.weak bcg\n.equ e, 9\n.equ w, 3\n.weak w";
    private static byte[] good;
    private static int table;

    public static void main(String[] args) {
        written();
        read();
        header();
        entries();
        names();
        symbols();
        relocations();
        starts();
        smallOnes();
        Check.end();
    }

    /** An entry of the file of TEXT: .text 1, .rodata 2, .data 3, .bss 4, .starts 5, .rela.. 6 to 8, .symtab 9, .strtab 10, .shstrtab 11. */
    private static int entry(int k) {
        return table + 40 * k;
    }

    private static int number(int at, int width) {
        int v = 0;
        for (int k = width - 1; k >= 0; k--) {
            v = v << 8 | good[at + k] & 255;
        }
        return v;
    }

    private static int begin(int k) {
        return number(entry(k) + 16, 4);
    }

    private static int length(int k) {
        return number(entry(k) + 20, 4);
    }

    private static void written() {
        ChainHouse x = Check.good(TEXT);
        good = Check.file(() -> Check.good(TEXT), 0);
        table = number(32, 4);
        int[] head = {127, 69, 76, 70, 1, 1, 1, 0, 0, 0, 0, 0, 0, 0, 0, 0, 1, 0, 243, 0, 1, 0, 0, 0, 0, 0, 0, 0, 0, 0, 0, 0};
        for (int k = 0; k < head.length; k++) {
            Check.due("byte " + k, good[k] & 255, head[k]);
        }
        int[] behind = {1, 0, 0, 0, 52, 0, 0, 0, 0, 0, 40, 0, 12, 0, 11, 0};
        for (int k = 0; k < behind.length; k++) {
            Check.due("byte " + (36 + k), good[36 + k] & 255, behind[k]);
        }
        Check.due("bytes", good.length, table + 40 * 12);
        int[][] rows = {
            // sort, flags, link, info, alignment, each
            {0, 0, 0, 0, 0, 0}, {1, 6, 0, 0, 8, 0}, {1, 2, 0, 0, 4, 0}, {1, 3, 0, 0, 1, 0}, {8, 3, 0, 0, 1, 0}, {1, 0, 0, 0, 2, 2},
            {4, 64, 9, 1, 4, 12}, {4, 64, 9, 2, 4, 12}, {4, 64, 9, 3, 4, 12}, {2, 0, 10, 5, 4, 16}, {3, 0, 0, 0, 1, 0}, {3, 0, 0, 0, 1, 0}};
        int[] places = {4, 8, 24, 28, 32, 36};
        int end = 52;
        for (int e = 0; e < 12; e++) {
            for (int k = 0; k < 6; k++) {
                Check.due("entry " + e + " at " + places[k], number(entry(e) + places[k], 4), rows[e][k]);
            }
            Check.due("entry " + e + " at 12", number(entry(e) + 12, 4), 0);
            if (e > 0) {
                int alignment = e == 4 ? 1 : rows[e][4];
                Check.due("where entry " + e + " begins", begin(e), (end + alignment - 1) / alignment * alignment);
                end = e == 4 ? end : begin(e) + length(e);
            }
        }
        Check.due("the TABLE's place", table, (end + 3) / 4 * 4);
        String names = new String(good, begin(11), length(11), java.nio.charset.StandardCharsets.ISO_8859_1);
        Check.due("names of entries", names, "\0.text\0.rodata\0.data\0.bss\0.starts\0.rela.text\0.rela.rodata\0.rela.data\0.symtab\0.strtab\0.shstrtab\0");
        Check.due("the name of .text", number(entry(1), 4), 1);
        Check.due("the name of .rela.data", number(entry(8), 4), names.indexOf(".rela.data"));
        // symbols: local ones l, $0, abcg, e; then g, c, l2, bcg (within abcg), w
        String strings = new String(good, begin(10), length(10), java.nio.charset.StandardCharsets.ISO_8859_1);
        Check.due("names of symbols", strings, "\0l\0$0\0abcg\0e\0c\0l2\0w\0");
        Check.due("the name of g", number(begin(9) + 16 * 5, 4), strings.indexOf("g\0"));
        Check.due("the name of bcg", number(begin(9) + 16 * 8, 4), strings.indexOf("bcg\0"));
        Check.due("symbols", Check.symbols(x), "l 0 0 0 0; $0 0 14 0 0; abcg 1 1 0 0; e 4 9 0 0; g -1 0 0 1; c 5 4 12 1; l2 3 9 0 1; bcg -1 0 0 2; w 4 3 0 2;");
        Check.due("where numbers", number(begin(9) + 16 * 4 + 14, 2), 65521);
        Check.due("where numbers", number(begin(9) + 16 * 6 + 14, 2), 65522);
        Check.due("where numbers", number(begin(9) + 16 * 7 + 14, 2), 4);
        Check.due("where numbers", number(begin(9) + 16 * 5 + 14, 2), 0);
        Check.due("bind and type", number(begin(9) + 16 * 8 + 12, 2), 32);
        Check.due("relocations", Check.relocations(x),
            "0 6 19 4 0; 0 6 51 -1 0; 0 14 23 5 0; 0 14 51 -1 0; 0 18 24 1 0; 0 18 51 -1 0; 0 22 43 -1 6; 0 28 1 4 0; 1 1 1 0 0; 2 0 1 4 0; 2 4 1 2 0;");
        Check.due("starts", Check.starts(x), "0 2 6 14");
    }

    private static void read() {
        ChainHouse x = new ChainHouse();
        Check.due("list 0", x.object(0, 0, 0), 0);
        Check.due("list 0", x.object(0, 3, 1), 1);
        Check.due("list 4", x.object(4, 0, 0), 0);
        Check.due("list 5", x.object(5, 0, 0), -1);
        Check.due("check(-1)", Check.check(x, -1), Check.INDEX);
        Check.due("check(6)", Check.check(x, 6), Check.INDEX);
        Check.due("check without a FILE", x.check(0), 1);
        Check.due("its place", x.object(5, 7, 0), 0);
        Check.assemble(x, 3, TEXT);
        Check.due("check(3)", x.check(3), 0);
        Check.due("no place", x.object(5, 0, 0), -1);
        int[][] counts = {{0, 4}, {1, 9}, {2, 11}, {3, 1}, {4, -1}, {-1, -1}};
        for (int[] c : counts) {
            Check.due("list 4, " + c[0], x.object(4, 99, c[0]), c[1]);
        }
        int[][] sections = {{0, 32, 8}, {1, 9, 4}, {2, 8, 1}, {3, 9, 1}, {4, -1, -1}, {-1, -1, -1}};
        for (int[] s : sections) {
            Check.due("bytes of section " + s[0], x.object(0, s[0], 0), s[1]);
            Check.due("alignment of section " + s[0], x.object(0, s[0], 1), s[2]);
            Check.due("more of section " + s[0], x.object(0, s[0], 2), -1);
        }
        Check.due("start", x.object(1, 1, 0), 2);
        Check.due("start", x.object(1, 1, 1), -1);
        Check.due("start", x.object(1, 4, 0), -1);
        Check.due("start", x.object(1, -1, 0), -1);
        Check.due("type", x.object(2, 0, 4), 0);
        Check.due("length of a name", x.object(2, 2, 5), 4);
        Check.due("a name's character", x.object(2, 2, 9), 'g');
        Check.due("behind a name", x.object(2, 2, 10), -1);
        Check.due("ahead", x.object(2, 2, -1), -1);
        Check.due("no symbol", x.object(2, 9, 0), -1);
        Check.due("no symbol", x.object(2, -1, 0), -1);
        Check.due("no relocation", x.object(3, 11, 0), -1);
        Check.due("no relocation", x.object(3, 0, 5), -1);
        Check.due("no list", x.object(6, 0, 0), -1);
        Check.due("no list", x.object(-1, 0, 0), -1);
        Check.due("list 5", x.object(5, 0, 1), -1);
        x.spoil(3, 17, 1);
        Check.due("check of a wrong one", x.check(3), 7);
        Check.due("its place", x.object(5, 0, 0), 16);
        Check.due("the READ object stays", x.object(4, 0, 2), 11);
        Check.link(x, 8, true);
        Check.due("link reads another one", x.object(4, 0, 1), 9);
    }

    /** The good file with some numbers altered (place, width, value ..) has a fault at a place. */
    private static void due(int fault, int place, int... changes) {
        byte[] bytes = good.clone();
        StringBuilder told = new StringBuilder();
        for (int c = 0; c < changes.length; c += 3) {
            for (int k = 0; k < changes[c + 1]; k++) {
                bytes[changes[c] + k] = (byte) (changes[c + 2] >> 8 * k);
            }
            told.append(changes[c]).append(" is ").append(changes[c + 2]).append(", ");
        }
        dueOf(told.toString(), bytes, fault, place);
    }

    private static void dueOf(String told, byte[] bytes, int fault, int place) {
        ChainHouse x = new ChainHouse();
        Check.setFile(x, 0, bytes);
        Check.due("check: " + told, x.check(0), fault);
        Check.due("place: " + told, x.object(5, 0, 0), place);
    }

    private static void header() {
        for (int n : new int[] {0, 1, 51}) {
            dueOf("cut " + n, java.util.Arrays.copyOf(good, n), 1, n);
        }
        dueOf("cut 52", java.util.Arrays.copyOf(good, 52), 10, 32);
        dueOf("one byte less", java.util.Arrays.copyOf(good, good.length - 1), 10, 32);
        dueOf("more bytes", java.util.Arrays.copyOf(good, good.length + 3), 0, -1);
        for (int k = 0; k < 4; k++) {
            due(2, k, k, 1, 0, 5, 1, 9);
        }
        due(3, 4, 4, 1, 2);
        due(4, 5, 5, 1, 2);
        due(5, 6, 6, 1, 0, 7, 1, 1);
        for (int k = 7; k < 16; k++) {
            due(6, k, k, 1, 1, 16, 1, 0);
        }
        due(7, 16, 16, 2, 257);
        due(8, 18, 18, 2, 244);
        int[][] nines = {{20, 4, 0}, {20, 4, 257}, {24, 4, 1}, {28, 4, 1 << 24}, {32, 4, 48}, {32, 4, table + 2}, {36, 4, 2}, {40, 2, 51},
            {42, 2, 1}, {44, 2, 1}, {46, 2, 41}, {48, 2, 0}, {48, 2, 17}, {50, 2, 0}, {50, 2, 12}};
        for (int[] nine : nines) {
            due(9, nine[0], nine);
        }
        due(10, 32, 32, 4, table + 4);
        due(10, 32, 32, 4, -4);
        due(9, 50, 48, 2, 1, 50, 2, 1);
    }

    private static void entries() {
        for (int k = 0; k < 40; k += 4) {
            due(11, entry(0) + k, entry(0) + k, 4, 1);
        }
        due(11, entry(3) + 4, entry(3) + 4, 4, 0);
        due(11, entry(3) + 4, entry(3) + 4, 4, 5);
        due(11, entry(3) + 4, entry(3) + 4, 4, 9, entry(4) + 32, 4, 0);
        due(12, entry(3) + 16, entry(3) + 20, 4, good.length - begin(3) + 1);
        due(12, entry(3) + 16, entry(3) + 16, 4, -1);
        due(12, entry(3) + 16, entry(3) + 16, 4, 51);
        due(12, entry(3) + 16, entry(3) + 16, 4, good.length + 1, entry(3) + 20, 4, 0);
        due(29, begin(8) + 4, entry(3) + 16, 4, 0, entry(3) + 20, 4, 0, begin(8) + 4, 1, 2);
        for (int bad : new int[] {0, 3, 128, -1}) {
            due(13, entry(3) + 32, entry(3) + 32, 4, bad);
            due(13, entry(4) + 32, entry(4) + 32, 4, bad);
        }
        due(13, entry(2) + 32, entry(2) + 16, 4, begin(2) + 1);
        due(13, entry(1) + 32, entry(1) + 32, 4, 64);
        due(0, -1, entry(4) + 32, 4, 64, entry(4) + 16, 4, 1);
        due(14, entry(3) + 16, entry(3) + 16, 4, table);
        due(14, entry(3) + 16, entry(3) + 16, 4, begin(2) + 8);
        due(14, entry(2) + 16, entry(2) + 16, 4, begin(1) + 28);
        due(0, -1, entry(4) + 16, 4, begin(1));
        // the entry of the names
        due(15, entry(10) + 4 - 40 * 8, 50, 2, 2);
        due(15, entry(11) + 20, entry(11) + 20, 4, 0);
        due(15, begin(11), begin(11), 1, 1);
        due(15, begin(11) + length(11) - 1, begin(11) + length(11) - 1, 1, 1);
    }

    private static void names() {
        due(16, entry(3), entry(3), 4, length(11));
        due(16, entry(3), entry(3), 4, -1);
        due(16, entry(3), entry(3), 4, 0);
        due(16, entry(3), entry(3), 4, 2);
        due(16, entry(3), entry(3), 4, number(entry(2), 4));
        due(16, entry(6), entry(4), 4, number(entry(6), 4), entry(1) + 8, 4, 0);
        // 17: sort, flags, the number behind them, link, info, each
        due(17, entry(1) + 4, entry(1) + 4, 4, 2);
        due(17, entry(1) + 8, entry(1) + 8, 4, 7, entry(1) + 12, 4, 1);
        due(17, entry(2) + 12, entry(2) + 12, 4, 1, entry(2) + 24, 4, 1);
        due(17, entry(2) + 24, entry(2) + 24, 4, 1);
        due(17, entry(2) + 28, entry(2) + 28, 4, 1, entry(2) + 36, 4, 1);
        due(17, entry(2) + 36, entry(2) + 36, 4, 1);
        due(17, entry(5) + 36, entry(5) + 36, 4, 4);
        due(17, entry(6) + 24, entry(6) + 24, 4, 10);
        due(17, entry(6) + 28, entry(6) + 28, 4, 2);
        due(17, entry(9) + 24, entry(9) + 24, 4, 11);
        due(17, entry(9) + 36, entry(9) + 36, 4, 12);
        due(28, entry(9) + 28, entry(9) + 28, 4, 6);
        // what an info tells is missing: .rodata is called .starts
        byte[] keep = good;
        int keepTable = table;
        good = Check.file(() -> Check.good(".rodata\n.word x"), 0);
        table = number(32, 4);
        // entries: .text .rodata .data .bss .rela.rodata .symtab .strtab .shstrtab
        int name = begin(8) + number(entry(2), 4);
        int[] word = {'.', 's', 't', 'a', 'r', 't', 's'};
        for (int k = 0; k < 7; k++) {
            good[name + k] = (byte) word[k];
        }
        due(17, entry(2) + 8);
        due(17, entry(2) + 36, entry(2) + 8, 4, 0);
        due(17, entry(5) + 28, entry(2) + 8, 4, 0, entry(2) + 36, 4, 2);
        due(17, entry(5) + 28, entry(2) + 8, 4, 0, entry(2) + 36, 4, 2, entry(5) + 28, 4, 0);
        good = keep;
        table = keepTable;
    }

    private static void symbols() {
        int first = begin(9);
        due(21, first, first, 1, 1);
        due(21, first + 15, first + 15, 1, 1);
        int l = first + 16;
        due(22, l, l, 4, length(10));
        due(22, l, l, 4, -1);
        due(22, l, l, 4, 0);
        due(22, l, begin(10) + 1, 1, 32);
        due(22, l, begin(10) + 1, 1, 127);
        due(23, l + 12, l + 12, 1, 3);
        due(23, l + 12, l + 12, 1, 48);
        due(23, l + 13, l + 13, 1, 1);
        due(0, -1, l + 12, 1, 2);
        int g = first + 16 * 5;
        int c = first + 16 * 6;
        int l2 = first + 16 * 7;
        due(24, c + 12, c + 12, 1, 0);
        due(25, l + 14, l + 14, 2, 5);
        due(25, l + 14, l + 14, 2, 12);
        due(25, l + 14, l + 14, 2, 65520);
        due(25, l + 14, l + 14, 2, 65523);
        // nowhere
        due(26, g + 4, g + 4, 4, 1, g + 8, 4, 1);
        due(26, g + 8, g + 8, 4, 1);
        due(26, l + 12, l + 14, 2, 0);
        due(26, l + 4, l + 14, 2, 0, l + 4, 4, 2);
        // common
        due(26, c + 4, c + 4, 4, 3);
        due(26, c + 4, c + 4, 4, 128);
        due(26, c + 8, c + 8, 4, 0);
        due(26, c + 8, c + 8, 4, 4097);
        due(26, c + 12, c + 12, 1, 32);
        due(0, -1, c + 4, 4, 64, c + 8, 4, 4096);
        // in a section
        due(0, -1, l2 + 4, 4, 0, l2 + 8, 4, 9);
        due(26, l2 + 4, l2 + 4, 4, 10);
        due(26, l2 + 4, l2 + 4, 4, -1);
        due(26, l2 + 8, l2 + 8, 4, 1);
        due(26, l2 + 8, l2 + 8, 4, -1);
        // absolute
        int e = first + 16 * 4;
        due(0, -1, e + 4, 4, -1, e + 8, 4, 0x7fffffff);
        due(26, e + 8, e + 8, 4, 0x80000000);
        due(27, l2, l2, 4, number(g, 4));
        ChainHouse x = Check.good("a: b: nop\n.globl a\n.globl b");
        int second = Check.number(x, 0, Check.number(x, 0, 32, 4) + 40 * 6 + 16, 4) + 32;
        Check.due("bind", x.spoil(0, second + 12, 0), 16);
        Check.due("check", x.check(0), 24);
        Check.due("place", x.object(5, 0, 0), second + 12);
        x.spoil(0, second + 12, 17);
        Check.due("check", x.check(0), 0);
        Check.due("type", x.object(2, 1, 4), 1);
        Check.due("type", x.object(2, 0, 4), 0);
        due(0, -1, first + 32, 4, number(l, 4));
        due(0, -1, l2 + 12, 1, 33);
    }

    private static void relocations() {
        int text = begin(6);
        int data = begin(8);
        due(29, text + 4, text + 4, 1, 0);
        due(29, text + 4, text + 4, 1, 18);
        due(29, data + 4, data + 4, 1, 16);
        due(29, data + 4, data + 4, 1, 43);
        due(0, -1, data + 4, 1, 39);
        due(30, text + 4, text + 5, 3, 10);
        due(30, text + 4, text + 5, 3, 0);
        due(30, text + 12 + 4, text + 12 + 5, 3, 1);
        int fill = text + 12 * 6;
        due(31, fill + 8, fill + 8, 4, 64);
        due(31, fill + 8, fill + 8, 4, 3);
        due(31, fill + 8, fill + 8, 4, -2);
        due(32, fill, fill + 8, 4, 12);
        due(0, -1, fill + 8, 4, 10);
        due(0, -1, fill + 8, 4, 0, fill, 4, 32);
        due(32, fill, fill + 8, 4, 0, fill, 4, 33);
        due(0, -1, text + 12, 4, 32);
        due(32, text + 12, text + 12, 4, 33);
        due(0, -1, text, 4, 24);
        due(32, text, text, 4, 25);
        due(32, text, text, 4, -1);
        due(0, -1, data, 4, 4);
        due(32, data, data, 4, 5);
        due(0, -1, data, 4, 7, data + 4, 1, 33);
        due(32, data, data, 4, 8, data + 4, 1, 33);
    }

    private static void starts() {
        int first = begin(5);
        due(33, first + 2, first + 2, 2, 3);
        due(33, first + 2, first + 2, 2, 0);
        due(33, first + 4, first + 4, 2, 2);
        due(33, first + 6, first + 6, 2, 32);
        due(0, -1, first + 6, 2, 30);
        due(34, 36, 36, 4, 0);
        due(34, 36, begin(1), 1, 3);
        due(0, -1, begin(1), 1, 3, 36, 4, 0);
    }

    private static void smallOnes() {
        ChainHouse x = Check.good("");
        Check.due("entries", Check.number(x, 0, 48, 2), 8);
        Check.due("starts", Check.number(x, 0, 36, 4), 0);
        // 18: without .strtab; 19 and 20
        good = Check.file(() -> Check.good(""), 0);
        table = number(32, 4);
        // entries: .text .rodata .data .bss .symtab .strtab .shstrtab
        missing();
    }

    /** Faults 18 to 20, in a file without relocations and starts: .text .rodata .data .bss .symtab .strtab .shstrtab. */
    private static void missing() {
        byte[] bytes = good.clone();
        // the name .rodata becomes .starts
        System.arraycopy(".starts".getBytes(), 0, bytes, begin(7) + number(entry(2), 4), 7);
        put(bytes, entry(2) + 8, 0);
        put(bytes, entry(2) + 36, 2);
        put(bytes, entry(2) + 32, 2);
        dueOf("no .rodata, empty .starts", bytes, 0, -1);
        put(bytes, entry(2) + 16, begin(5));
        put(bytes, entry(2) + 20, 0);
        dueOf("an empty part elsewhere", bytes, 0, -1);
        // the same file with one entry less: the names' entry is .strtab's
        bytes = good.clone();
        put(bytes, 48, 7 | 6 << 16);
        put(bytes, entry(6) + 16, begin(7));
        put(bytes, entry(6) + 20, length(7));
        dueOf("no .shstrtab", bytes, 18, 50);
        // more bytes than may be
        due(19, entry(4) + 20, entry(4) + 20, 4, 4097);
        due(0, -1, entry(4) + 20, 4, 4096);
        due(19, entry(4) + 20, entry(4) + 20, 4, -1);
        due(19, entry(5) + 20, entry(5) + 20, 4, 0);
        due(19, entry(5) + 20, entry(5) + 20, 4, 15);
        due(20, entry(6) + 20, entry(6) + 20, 4, 0);
        due(20, begin(6), begin(6), 1, 1);
        // .text of 2049 bytes, behind all else
        byte[] longer = java.util.Arrays.copyOf(good, 4000);
        int end = good.length + 3 & ~3;
        put(longer, entry(1) + 16, end);
        put(longer, entry(1) + 20, 2048);
        dueOf("2048 bytes", longer, 0, -1);
        put(longer, entry(1) + 20, 2049);
        dueOf("2049 bytes", longer, 19, entry(1) + 20);
        // 1024 starts, and relocations that don't come out even or are too many: .rodata's string is another name
        longer = java.util.Arrays.copyOf(good, 4700);
        System.arraycopy(".starts".getBytes(), 0, longer, begin(7) + number(entry(2), 4), 7);
        put(longer, entry(1) + 16, end);
        put(longer, entry(1) + 20, 2048);
        put(longer, entry(2) + 8, 0);
        put(longer, entry(2) + 36, 2);
        put(longer, entry(2) + 32, 2);
        put(longer, entry(2) + 16, end + 2048);
        put(longer, entry(2) + 20, 2048);
        put(longer, 36, 1);
        for (int k = 0; k < 1024; k++) {
            longer[end + 2048 + 2 * k] = (byte) (2 * k);
            longer[end + 2048 + 2 * k + 1] = (byte) (2 * k >> 8);
        }
        dueOf("1024 starts", longer, 0, -1);
        put(longer, entry(2) + 20, 2049);
        dueOf("an odd number of bytes of starts", longer, 19, entry(2) + 20);
        put(longer, entry(2) + 20, 2050);
        dueOf("1025 starts", longer, 19, entry(2) + 20);
        good = Check.file(() -> Check.good(".data\n.word x"), 0);
        table = number(32, 4);
        // entries: .text .rodata .data .bss .rela.data ..
        longer = java.util.Arrays.copyOf(good, 4300);
        put(longer, entry(5) + 16, good.length + 3 & ~3);
        put(longer, entry(5) + 20, 12 * 301);
        dueOf("301 relocations", longer, 19, entry(5) + 20);
        put(longer, entry(5) + 20, 12 * 300);
        dueOf("300 relocations of kind 0", longer, 29, (good.length + 3 & ~3) + 4);
        put(longer, entry(5) + 20, 12 * 3 + 1);
        dueOf("bytes that don't come out even", longer, 19, entry(5) + 20);
        good = Check.file(() -> Check.good(""), 0);
        table = number(32, 4);
        // .symtab with 101 and 102 times 16 bytes
        longer = java.util.Arrays.copyOf(good, 4000);
        put(longer, entry(5) + 16, end);
        put(longer, entry(5) + 20, 16 * 102);
        dueOf("102 symbols", longer, 19, entry(5) + 20);
        put(longer, entry(5) + 20, 16 * 101);
        dueOf("101 symbols without names", longer, 22, end + 16);
    }

    private static void put(byte[] bytes, int at, int v) {
        for (int k = 0; k < 4; k++) {
            bytes[at + k] = (byte) (v >> 8 * k);
        }
    }
}
