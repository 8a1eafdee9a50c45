import java.util.Arrays;

/** Section 3, sentence by sentence: what a FILE's numbers may be, the FAULTS 1 to 34 of READING with their PLACES, and what stays. */
public final class EdgesObjectTest {
    /** .text, .rodata, .data, .bss and .starts, all three .rela.., symbols of each sort. */
    private static final String TEXT = "l: nop\nadd a0, a1, a2\ncall g\nla a0, c\n.align 3\n.word g\n.zero 60\n"
        + ".rodata\n.align 2\n.byte 7\nabcg: .word l, 5\n.zero 7\n.data\n.word g, abcg\n.byte 1, 2, 3\n.bss\n.zero 9\n.globl g\n.globl l2\nl2:\n.comm c, 12, 4\n.weak bcg\n.equ e, 9\n.equ w, 3\n.weak w";
    private static byte[] good;
    private static int table;

    public static void main(String[] args) {
        take(TEXT);
        headerBytes();
        highBytes();
        entryNumbers();
        tablePlaces();
        meetings();
        namesOfEntries();
        sixteenEntries();
        take(TEXT);
        symbolNumbers();
        symbolNames();
        relocationKinds();
        relocationPlaces();
        starts();
        rooms();
        threeTogether();
        missing();
        told();
        stays();
        Check.end();
    }

    /** The FILE of a text is what is altered from now on. */
    private static void take(String text) {
        good = Check.file(() -> Check.good(text), 0);
        table = number(32, 4);
    }

    private static int number(int at, int width) {
        return Check.number(good, at, width);
    }

    private static int entry(int k) {
        return table + 40 * k;
    }

    private static int begin(int k) {
        return number(entry(k) + 16, 4);
    }

    private static int length(int k) {
        return number(entry(k) + 20, 4);
    }

    /** The good file with some numbers altered (place, width, value ..) has a fault at a place. */
    private static void due(int fault, int place, int... changes) {
        byte[] bytes = good.clone();
        StringBuilder told = new StringBuilder();
        for (int c = 0; c < changes.length; c += 3) {
            Check.put(bytes, changes[c], changes[c + 1], changes[c + 2]);
            told.append(changes[c]).append(" is ").append(changes[c + 2]).append(", ");
        }
        dueOf(told.toString(), bytes, fault, place);
    }

    private static ChainHouse dueOf(String told, byte[] bytes, int fault, int place) {
        ChainHouse x = Check.withFile(0, bytes);
        Check.due("check: " + told, x.check(0), fault);
        Check.due("place: " + told, x.object(5, 0, 0), place);
        Check.due("nothing is READ with a FAULT: " + told, fault != 0 && x.object(4, 0, 1) + x.object(4, 0, 2) + x.object(0, 0, 0) != 0, false);
        return x;
    }

    /** 1 to 8: each byte, each bit of it. */
    private static void headerBytes() {
        for (int n : new int[] {0, 1, 2, 4, 16, 50, 51}) {
            dueOf("cut " + n, Arrays.copyOf(good, n), 1, n);
        }
        dueOf("cut 52", Arrays.copyOf(good, 52), 10, 32);
        for (int k = 0; k < 20; k++) {
            int fault = k < 4 ? 2 : k < 7 ? k - 1 : k < 16 ? 6 : k < 18 ? 7 : 8;
            int place = k < 16 ? k : k < 18 ? 16 : 18;
            for (int bit = 0; bit < 8; bit++) {
                due(fault, place, k, 1, good[k] ^ 1 << bit);
            }
        }
        // the first of two
        for (int k = 0; k < 19; k++) {
            int fault = k < 4 ? 2 : k < 7 ? k - 1 : k < 16 ? 6 : k < 18 ? 7 : 8;
            due(fault, k < 16 ? k : k < 18 ? 16 : 18, k, 1, good[k] + 1, k + 1, 1, good[k + 1] + 1, 20, 1, 9);
        }
    }

    /** 9 and 10: each bit of the numbers that may be one value alone, and the ends of the others. */
    private static void highBytes() {
        for (int at : new int[] {20, 24, 28}) {
            for (int bit = 0; bit < 32; bit++) {
                due(9, at, at, 4, number(at, 4) ^ 1 << bit);
            }
        }
        for (int version : new int[] {0, 2, 3, -1}) {
            due(9, 20, 20, 4, version);
        }
        for (int at : new int[] {40, 42, 44, 46}) {
            for (int bit = 0; bit < 16; bit++) {
                due(9, at, at, 2, number(at, 2) ^ 1 << bit);
            }
        }
        for (int v : new int[] {0, 4, 48, 51, 53, 54, 55, 57, 58, 59, table - 1, table + 1, table + 2, -1, -2, -3}) {
            due(9, 32, 32, 4, v);
        }
        for (int v : new int[] {table + 4, table + 0x100, table + 0x10000, table + 0x1000000, table + 0x40000000, table | 0x80000000, -4, 0x7ffffffc, 0x7fffff00}) {
            due(10, 32, 32, 4, v);
        }
        due(11, 56, 32, 4, 52);
        for (int bit = 1; bit < 32; bit++) {
            due(9, 36, 36, 4, 1 << bit);
            due(9, 36, 36, 4, 1 | 1 << bit);
        }
        due(34, 36, 36, 4, 0);
        due(9, 48, 48, 2, 0);
        due(9, 48, 48, 2, 17);
        due(9, 48, 48, 2, 12 + 256);
        due(9, 48, 48, 2, -1);
        due(9, 50, 50, 2, 0);
        due(9, 50, 50, 2, 12);
        due(9, 50, 50, 2, 11 + 256);
        due(9, 50, 50, 2, -1);
        due(9, 50, 48, 2, 1, 50, 2, 1);
        due(9, 50, 48, 2, 11);
        due(15, entry(1) + 4, 50, 2, 1);
        due(10, 32, 48, 2, 13);
        due(10, 32, 48, 2, 16);
        // each of the numbers ahead of the next one
        int[][] wrong = {{20, 4, 9}, {24, 4, 9}, {28, 4, 9}, {32, 4, 9}, {36, 4, 9}, {40, 2, 9}, {42, 2, 9}, {44, 2, 9}, {46, 2, 9}, {48, 2, 99}, {50, 2, 99}};
        for (int k = 0; k + 1 < wrong.length; k++) {
            due(9, wrong[k][0], wrong[k][0], wrong[k][1], wrong[k][2], wrong[k + 1][0], wrong[k + 1][1], wrong[k + 1][2]);
        }
    }

    /** 11 to 13, 16 and 17: the numbers of each entry, with their higher bytes. */
    private static void entryNumbers() {
        for (int at = 0; at < 40; at++) {
            due(11, entry(0) + at / 4 * 4, entry(0) + at, 1, 1);
            due(11, entry(0) + at / 4 * 4, entry(0) + at, 1, 128);
        }
        int[] sorts = {0, 1, 1, 1, 8, 1, 4, 4, 4, 2, 3, 3};
        for (int e = 1; e < 12; e++) {
            boolean bss = e == 4;
            for (int up = 8; up < 32; up += 8) {
                int[] faults = {16, 11, 17, 17, bss ? 0 : 12, bss ? 19 : 12, 17, e == 9 ? 28 : 17, 13, 17};
                for (int k = 0; k < 10; k++) {
                    if (up == 8 && (k == 4 || k == 5)) {
                        continue;
                    }
                    int at = entry(e) + 4 * k;
                    int place = faults[k] == 0 ? -1 : faults[k] == 12 ? entry(e) + 16 : at;
                    int fault = faults[k];
                    due(fault, place, at, 4, number(at, 4) + (1 << up));
                }
                due(bss ? 0 : 12, bss ? -1 : entry(e) + 16, entry(e) + 16, 4, number(entry(e) + 16, 4) | 0x80000000);
            }
            for (int sort : new int[] {0, 5, 6, 7, 9, 255, -1}) {
                due(11, entry(e) + 4, entry(e) + 4, 4, sort);
            }
            for (int sort : new int[] {1, 2, 3, 4, 8}) {
                if (bss) {
                    continue;
                }
                boolean same = sort == sorts[e];
                // an entry of sort 8 has no bytes in the file; that of the names is looked at ahead
                int fault = same ? 0 : e == 11 ? 15 : 17;
                due(fault, same ? -1 : entry(e) + 4, entry(e) + 4, 4, sort);
            }
            for (int bad : new int[] {0, 3, 5, 6, 7, 9, 12, 63, 65, 96, 128, 256, -1, -64, 0x80000000}) {
                due(13, entry(e) + 32, entry(e) + 32, 4, bad);
            }
        }
        for (int alignment : new int[] {1, 2, 4, 8, 16, 32, 64}) {
            due(0, -1, entry(4) + 32, 4, alignment);
            boolean fits = begin(3) % alignment == 0;
            due(fits ? 0 : 13, fits ? -1 : entry(3) + 32, entry(3) + 32, 4, alignment);
        }
        // 12: up to the last byte, and one more
        due(19, entry(9) + 20, entry(9) + 16, 4, good.length, entry(9) + 20, 4, 0);
        due(12, entry(9) + 16, entry(9) + 16, 4, good.length + 4, entry(9) + 20, 4, 0);
        due(12, entry(3) + 16, entry(3) + 20, 4, good.length - begin(3) + 1);
        due(14, entry(3) + 16, entry(3) + 20, 4, good.length - begin(3));
        due(12, entry(3) + 16, entry(3) + 16, 4, good.length - length(3) + 1);
        due(14, entry(3) + 16, entry(3) + 16, 4, good.length - length(3));
        // 12, 13, 14 in this order; each entry ahead of the next
        due(12, entry(3) + 16, entry(3) + 16, 4, -1, entry(3) + 32, 4, 3);
        due(13, entry(3) + 32, entry(3) + 16, 4, table + 1, entry(3) + 32, 4, 2);
        due(11, entry(3) + 4, entry(3) + 4, 4, 0, entry(3) + 16, 4, -1);
        due(13, entry(2) + 32, entry(2) + 32, 4, 3, entry(3) + 4, 4, 0);
        // 17: in the order sort, flags, the number behind, link, info, each
        int[] order = {4, 8, 12, 24, 28, 36};
        for (int k = 0; k < 5; k++) {
            int first = entry(5) + order[k];
            due(17, first, first, 4, order[k] == 4 ? 2 : 77, entry(5) + order[k + 1], 4, 78, entry(6) + 8, 4, 7);
        }
        due(16, entry(7), entry(7), 4, 0, entry(1) + 8, 4, 0);
        due(28, entry(9) + 28, entry(9) + 28, 4, number(entry(9) + 28, 4) - 1);
        due(28, entry(9) + 28, entry(9) + 28, 4, number(entry(9) + 28, 4) + 1);
        due(28, entry(9) + 28, entry(9) + 28, 4, 0);
    }

    /** The good file with its TABLE at 52 and the parts behind it. */
    private static byte[] tableAhead() {
        int size = 40 * number(48, 2);
        byte[] bytes = new byte[52 + size + begin(11) + length(11) - 52];
        System.arraycopy(good, 0, bytes, 0, 52);
        System.arraycopy(good, table, bytes, 52, size);
        System.arraycopy(good, 52, bytes, 52 + size, begin(11) + length(11) - 52);
        Check.put(bytes, 32, 4, 52);
        for (int e = 1; e < 12; e++) {
            Check.put(bytes, 52 + 40 * e + 16, 4, begin(e) + size);
        }
        return bytes;
    }

    private static void tablePlaces() {
        byte[] bytes = tableAhead();
        ChainHouse x = dueOf("the TABLE at 52, the last part up to the FILE's end", bytes, 0, -1);
        Check.due("symbols", x.object(4, 0, 1), 9);
        dueOf("a byte less", Arrays.copyOf(bytes, bytes.length - 1), 12, 52 + 40 * 11 + 16);
        dueOf("a byte more", Arrays.copyOf(bytes, bytes.length + 1), 0, -1);
        // the TABLE up to the FILE's end
        dueOf("the good file", good, 0, -1);
        Check.due("the TABLE's end", table + 480, good.length);
        dueOf("a byte less", Arrays.copyOf(good, good.length - 1), 10, 32);
        for (int place : new int[] {48, 53, 54, 55}) {
            Check.put(bytes, 32, 4, place);
            dueOf("the TABLE at " + place, bytes, 9, 32);
        }
    }

    /** 12 and 14 with one byte: below 52, the TABLE's first and last, those of entries before; what is empty meets nothing. */
    private static void meetings() {
        take(".text\nnop\n.word x\n.data\n.byte 5\n.rodata\n");
        // entries: .text .rodata .data .bss .starts .rela.text .symtab .strtab .shstrtab
        int data = entry(3);
        Check.due(".data has a byte", length(3), 1);
        Check.due(".text begins at 52", begin(1), 52);
        int[][] rows = {
            {0, 12}, {51, 12}, {52, 14}, {57, 14}, {begin(3), 0}, {table - 1, -2}, {table, 14}, {table + 1, 14}, {good.length - 1, 14}, {good.length, 12}};
        for (int[] row : rows) {
            if (row[1] >= 0) {
                due(row[1], row[1] == 0 ? -1 : data + 16, data + 16, 4, row[0]);
            }
        }
        for (int at : new int[] {0, 51, 52, 53, 57, table, table + 5, good.length - 1, good.length}) {
            due(0, -1, data + 16, 4, at, data + 20, 4, 0);
            due(0, -1, entry(2) + 16, 4, at);
        }
        due(12, data + 16, data + 16, 4, good.length + 1, data + 20, 4, 0);
        // a byte of the FILE behind the TABLE
        byte[] longer = Arrays.copyOf(good, good.length + 2);
        Check.put(longer, data + 16, 4, good.length);
        ChainHouse x = dueOf("behind the TABLE", longer, 0, -1);
        Check.due("bytes of .data", x.object(0, 2, 0), 1);
        Check.put(longer, data + 20, 4, 2);
        dueOf("two behind the TABLE", longer, 0, -1);
        Check.put(longer, data + 20, 4, 3);
        dueOf("three behind the TABLE", longer, 12, data + 16);
        // a later entry that begins in, or ends in, one before
        int starts = entry(5);
        due(14, starts + 16, starts + 16, 4, 52);
        due(14, starts + 16, starts + 16, 4, 56);
        due(14, entry(2) + 16, entry(2) + 16, 4, 57, entry(2) + 20, 4, 1);
        // .bss has no bytes in the FILE: neither as the later nor as the earlier one
        due(0, -1, entry(4) + 16, 4, 52, entry(4) + 20, 4, 4096);
        due(0, -1, entry(4) + 16, 4, begin(6), entry(4) + 20, 4, 100);
        due(0, -1, entry(4) + 16, 4, -1, entry(4) + 20, 4, 100);
        take(TEXT);
    }

    /** 15 and 16. */
    private static void namesOfEntries() {
        take(TEXT);
        int strings = begin(11);
        int n = length(11);
        String names = new String(good, strings, n, java.nio.charset.StandardCharsets.ISO_8859_1);
        for (int e = 1; e < 12; e++) {
            for (int at = 0; at <= n + 1; at++) {
                String name = at < n ? names.substring(at, names.indexOf('\0', at)) : "";
                boolean same = names.substring(number(entry(e), 4), names.indexOf('\0', number(entry(e), 4))).equals(name);
                boolean mine = same && number(entry(e), 4) == at;
                if (mine || e % 5 != 0 && e != 11) {
                    continue;
                }
                boolean known = ".text .rodata .data .bss .starts .rela.text .rela.rodata .rela.data .symtab .strtab .shstrtab".contains(name) && name.startsWith(".") && at > 0 && !name.equals(".shstr");
                if (!same) {
                    // none of the names, or one that an entry before, or a later one, has
                    byte[] bytes = good.clone();
                    Check.put(bytes, entry(e), 4, at);
                    ChainHouse x = Check.withFile(0, bytes);
                    int fault = x.check(0);
                    Check.due("name " + name + " of entry " + e, fault, 16);
                    int place = x.object(5, 0, 0);
                    boolean later = known && place > entry(e);
                    Check.due("place of name " + name, later || place == entry(e), true);
                } else {
                    due(0, -1, entry(e), 4, at);
                }
            }
        }
        // .text within .rela.text, .data within .rela.data
        int inRela = names.indexOf(".rela.text") + 5;
        due(0, -1, entry(1), 4, inRela);
        due(0, -1, entry(3), 4, names.indexOf(".rela.data") + 5);
        due(16, entry(2), entry(2), 4, inRela);
        due(16, entry(3), entry(3), 4, n);
        due(16, entry(3), entry(3), 4, n - 1);
        due(16, entry(3), entry(3), 4, -1);
        for (int at : new int[] {strings, strings + n - 1}) {
            for (int b : new int[] {1, 255}) {
                due(15, at, at, 1, b);
            }
        }
        due(15, entry(11) + 20, entry(11) + 20, 4, 0);
        due(15, entry(11) + 4, entry(11) + 4, 4, 2);
        due(15, entry(9) + 4, 50, 2, 9);
        due(15, entry(4) + 4, 50, 2, 4);
        due(15, entry(11) + 4, entry(11) + 4, 4, 1, entry(11) + 20, 4, 0);
        due(15, entry(11) + 20, entry(11) + 20, 4, 0, strings, 1, 1);
        due(15, strings, strings, 1, 1, strings + n - 1, 1, 1);
        // 18: the names' entry is .strtab, whose strings are all that is needed
        due(16, entry(1), 50, 2, 10);
    }

    /** 16 entries may be, 17 not. */
    private static void sixteenEntries() {
        byte[] longer = Arrays.copyOf(good, good.length + 200);
        Check.put(longer, 48, 2, 16);
        dueOf("16 entries", longer, 11, entry(12) + 4);
        for (int e = 12; e < 16; e++) {
            Check.put(longer, entry(e) + 4, 4, 1);
            Check.put(longer, entry(e) + 32, 4, 1);
        }
        dueOf("16 entries", longer, 16, entry(12));
        Check.put(longer, 48, 2, 17);
        dueOf("17 entries", longer, 9, 48);
        Check.put(longer, 48, 2, 12);
        dueOf("12 entries", longer, 0, -1);
    }

    /** 21, 23 to 26: each number of a symbol at both ends, with its higher bytes. */
    private static void symbolNumbers() {
        int first = begin(9);
        for (int k = 0; k < 16; k++) {
            due(21, first + k, first + k, 1, 1);
            due(21, first + k, first + k, 1, 128);
        }
        // l 1, $0 2, abcg 3, e 4 (local); g 5 nowhere, c 6 common, l2 7 in .bss, bcg 8 nowhere and weak, w 9 absolute
        for (int s = 1; s <= 9; s++) {
            int at = first + 16 * s;
            int bind = good[at + 12] >> 4;
            for (int b : new int[] {0, 1, 2}) {
                for (int type = 0; type < 16; type++) {
                    if (type > 2) {
                        due(23, at + 12, at + 12, 1, 16 * b + type);
                    } else if (b == bind) {
                        due(0, -1, at + 12, 1, 16 * b + type);
                    }
                }
            }
            for (int b = 3; b < 16; b++) {
                due(23, at + 12, at + 12, 1, 16 * b);
            }
            for (int bit = 0; bit < 8; bit++) {
                due(23, at + 13, at + 13, 1, 1 << bit);
            }
            for (int where : new int[] {5, 6, 7, 8, 9, 10, 11, 12, 15, 16, 255, 256, 257, 65520, 65523, 65535, 65521 - 256}) {
                due(25, at + 14, at + 14, 2, where);
            }
        }
        due(24, first + 16 * 6 + 12, first + 16 * 6 + 12, 1, 0);
        due(24, first + 16 * 9 + 12, first + 16 * 9 + 12, 1, 0);
        due(28, entry(9) + 28, first + 16 * 5 + 12, 1, 16, first + 16 * 4 + 12, 1, 16);
        // in a section: by where 1 to 4
        int[] sizes = {length(1), length(2), length(3), length(4)};
        int l2 = first + 16 * 7;
        for (int where = 1; where <= 4; where++) {
            int n = sizes[where - 1];
            due(0, -1, l2 + 14, 2, where, l2 + 4, 4, n, l2 + 8, 4, 0);
            due(0, -1, l2 + 14, 2, where, l2 + 4, 4, 0, l2 + 8, 4, n);
            due(0, -1, l2 + 14, 2, where, l2 + 4, 4, n - 1, l2 + 8, 4, 1);
            due(26, l2 + 4, l2 + 14, 2, where, l2 + 4, 4, n + 1, l2 + 8, 4, 0);
            due(26, l2 + 8, l2 + 14, 2, where, l2 + 4, 4, n, l2 + 8, 4, 1);
            due(26, l2 + 8, l2 + 14, 2, where, l2 + 4, 4, 0, l2 + 8, 4, n + 1);
            due(26, l2 + 8, l2 + 14, 2, where, l2 + 4, 4, 1, l2 + 8, 4, n);
            for (int big : new int[] {0x100, 0x10000, 0x1000000, 0x7fffffff, 0x80000000, -1}) {
                due(26, l2 + 4, l2 + 14, 2, where, l2 + 4, 4, big, l2 + 8, 4, 0);
                due(26, l2 + 8, l2 + 14, 2, where, l2 + 4, 4, 0, l2 + 8, 4, big);
                due(26, l2 + 4, l2 + 14, 2, where, l2 + 4, 4, big, l2 + 8, 4, -big);
            }
        }
        // absolute: any value, the size 0 or more
        int w = first + 16 * 9;
        for (int v : new int[] {0, 1, -1, 0x7fffffff, 0x80000000}) {
            due(0, -1, w + 4, 4, v);
            due(v < 0 ? 26 : 0, v < 0 ? w + 8 : -1, w + 8, 4, v);
        }
        // common: the value an alignment, the size 1 to 4096, the bind 1
        int c = first + 16 * 6;
        for (int v = 0; v <= 130; v++) {
            boolean may = v == 1 || v == 2 || v == 4 || v == 8 || v == 16 || v == 32 || v == 64;
            due(may ? 0 : 26, may ? -1 : c + 4, c + 4, 4, v);
        }
        for (int v : new int[] {0x104, 0x10004, 0x1000004, -4, 0x80000000}) {
            due(26, c + 4, c + 4, 4, v);
        }
        for (int v : new int[] {0, 1, 4096, 4097, 8192, -1, 12 + 0x1000000, 12 + 0x10000, 0x80000000}) {
            boolean may = v >= 1 && v <= 4096;
            due(may ? 0 : 26, may ? -1 : c + 8, c + 8, 4, v);
        }
        due(26, c + 12, c + 12, 1, 32);
        due(26, c + 4, c + 4, 4, 3, c + 8, 4, 0, c + 12, 1, 32);
        due(26, c + 8, c + 8, 4, 0, c + 12, 1, 32);
        // nowhere: value and size 0, not local
        int g = first + 16 * 5;
        for (int up = 0; up < 32; up += 8) {
            due(26, g + 4, g + 4, 4, 1 << up);
            due(26, g + 8, g + 8, 4, 1 << up);
        }
        due(26, g + 4, g + 4, 4, 1, g + 8, 4, 1);
        due(26, first + 16 + 12, first + 16 + 14, 2, 0);
        due(26, first + 16 + 12, first + 16 + 14, 2, 65522, first + 16 + 4, 4, 4, first + 16 + 8, 4, 4);
        // 22 to 26 in this order, a symbol ahead of the next one
        int l = first + 16;
        due(22, l, l, 4, -1, l + 12, 1, 3);
        due(23, l + 12, l + 12, 1, 3, l + 13, 1, 1);
        due(23, l + 13, l + 13, 1, 1, l + 14, 2, 99);
        due(24, c + 12, c + 12, 1, 0, c + 14, 2, 99);
        due(25, c + 14, c + 14, 2, 99, c + 4, 4, 3);
        due(26, c + 4, c + 4, 4, 3, l2, 4, -1);
        due(26, w + 8, w, 4, number(g, 4), w + 8, 4, -1);
        due(27, w, w, 4, number(g, 4), entry(9) + 28, 4, 1);
        due(27, w, w, 4, number(g, 4));
        due(0, -1, first + 32, 4, number(l, 4));
        due(0, -1, first + 32, 4, number(g, 4));
    }

    /** 22: names of 1 to 16 characters 33 to 126; 27 with the very first symbol. */
    private static void symbolNames() {
        take("abcdefghijklmnop:\n.word x\n.globl y\n.globl z");
        // entries: .text .rodata .data .bss .rela.text .symtab .strtab .shstrtab
        int symtab = begin(6);
        int strtab = begin(7);
        for (int c = 0; c < 256; c++) {
            boolean may = c >= 33 && c <= 126;
            due(may ? 0 : 22, may ? -1 : symtab + 16, strtab + 5, 1, c == 0 ? 32 : c);
        }
        ChainHouse x = dueOf("a name of 16", good, 0, -1);
        Check.due("length", x.object(2, 0, 5), 16);
        Check.due("the last one", x.object(2, 0, 21), 'p');
        Check.due("behind it", x.object(2, 0, 22), -1);
        // the 0 behind it becomes a character: 18 characters
        due(22, symtab + 16, strtab + 17, 1, 'q');
        // 17: that of the next name is taken off by a 0
        due(22, symtab + 16, strtab + 17, 1, 'q', strtab + 18, 1, 0);
        due(0, -1, symtab + 16, 4, 2);
        due(0, -1, symtab + 16, 4, 16);
        due(22, symtab + 16, symtab + 16, 4, 17);
        due(22, symtab + 16, symtab + 16, 4, 0);
        due(22, symtab + 16, symtab + 16, 4, length(7));
        due(22, symtab + 16, symtab + 16, 4, length(7) - 1);
        due(0, -1, symtab + 16, 4, length(7) - 2);
        for (int up = 8; up < 32; up += 8) {
            due(22, symtab + 16, symtab + 16, 4, 1 + (1 << up));
        }
        due(22, symtab + 16, symtab + 16, 4, -1);
        take(".globl a\n.globl b\n.globl c\n.weak d");
        symtab = begin(5);
        due(27, symtab + 32, symtab + 32, 4, number(symtab + 16, 4));
        due(27, symtab + 64, symtab + 64, 4, number(symtab + 16, 4));
        due(27, symtab + 64, symtab + 64, 4, number(symtab + 48, 4));
        due(20, entry(6) + 20, entry(6) + 20, 4, 0);
        for (int b : new int[] {1, 255}) {
            due(20, begin(6), begin(6), 1, b);
            due(20, begin(6) + length(6) - 1, begin(6) + length(6) - 1, 1, b);
        }
        due(20, begin(6), begin(6), 1, 1, begin(5), 1, 1);
        due(19, entry(5) + 20, entry(5) + 20, 4, 17, begin(6), 1, 1);
        take(TEXT);
    }

    private static int widthOf(int kind) {
        switch (kind) {
            case 33: case 37: return 1;
            case 34: case 38: case 44: case 45: return 2;
            case 1: case 16: case 17: case 23: case 24: case 25: case 26: case 27: case 28: case 35: case 39: return 4;
            case 19: return 8;
            default: return -1;
        }
    }

    /** 29 to 31: each kind in each section, with a symbol and without one. */
    private static void relocationKinds() {
        int[] relas = {begin(6), begin(7), begin(8)};
        for (int s = 0; s < 3; s++) {
            int at = relas[s];
            for (int kind = 0; kind < 256; kind++) {
                boolean data = kind == 1 || kind >= 33 && kind <= 35 || kind >= 37 && kind <= 39;
                boolean none = kind == 43 || kind == 51;
                boolean may = s == 0 ? none || widthOf(kind) >= 0 : data;
                int fault = !may ? 29 : none ? 30 : 0;
                due(fault, fault == 0 ? -1 : at + 4, at, 4, 0, at + 4, 4, 256 * 3 + kind, at + 8, 4, 0);
                fault = !may ? 29 : none ? 0 : 30;
                due(fault, fault == 0 ? -1 : at + 4, at, 4, 0, at + 4, 4, kind, at + 8, 4, 0);
            }
            for (int symbol : new int[] {1, 9}) {
                due(0, -1, at + 5, 3, symbol, at + 4, 1, 1);
            }
            for (int symbol : new int[] {10, 11, 100, 256 + 3, 65536 + 3, 0xffffff, 0x800003}) {
                due(30, at + 4, at + 5, 3, symbol, at + 4, 1, 1);
            }
            due(29, at + 4, at + 4, 4, 0);
            for (int addend : new int[] {0, 1, -1, 0x7fffffff, 0x80000000}) {
                byte[] bytes = good.clone();
                Check.put(bytes, at + 4, 1, 1);
                Check.put(bytes, at + 8, 4, addend);
                ChainHouse x = dueOf("addend", bytes, 0, -1);
                Check.due("addend", x.object(3, s == 0 ? 0 : s == 1 ? 8 : 9, 4), addend);
            }
        }
        int at = relas[0];
        for (int addend = -4; addend <= 70; addend++) {
            boolean may = addend >= 0 && addend <= 62 && addend % 2 == 0;
            due(may ? 0 : 31, may ? -1 : at + 8, at, 4, 0, at + 4, 4, 43, at + 8, 4, addend);
        }
        for (int addend : new int[] {0x100, 0x10000, 0x1000000, 0x80000000, 0x7ffffffe, -2}) {
            due(31, at + 8, at, 4, 0, at + 4, 4, 43, at + 8, 4, addend);
        }
        // 29 to 32 in this order, a relocation ahead of the next one, .text ahead of .rodata
        due(29, at + 4, at + 4, 4, 256 * 99 + 2, at, 4, -1);
        due(30, at + 4, at + 4, 4, 256 * 99 + 1, at, 4, -1);
        due(31, at + 8, at + 4, 4, 43, at, 4, -1, at + 8, 4, 1);
        due(32, at, at + 4, 4, 256 + 1, at, 4, -1, at + 12 + 4, 4, 2);
        due(29, at + 12 + 4, at + 12 + 4, 4, 2, relas[1] + 4, 4, 2);
        due(29, relas[1] + 4, relas[1] + 4, 4, 2, relas[2] + 4, 4, 2);
        due(29, relas[2] + 4, relas[2] + 4, 4, 2, begin(5) + 2, 2, 1);
    }

    /** 32: each kind at the last place that may be, and at the next one. */
    private static void relocationPlaces() {
        int[] relas = {begin(6), begin(7), begin(8)};
        for (int s = 0; s < 3; s++) {
            int at = relas[s];
            int n = length(s + 1);
            for (int kind = 0; kind < 64; kind++) {
                int width = widthOf(kind);
                boolean data = kind == 1 || kind >= 33 && kind <= 35 || kind >= 37 && kind <= 39;
                if (width < 0 || s > 0 && !data) {
                    continue;
                }
                due(0, -1, at, 4, 0, at + 4, 1, kind);
                due(0, -1, at, 4, n - width, at + 4, 1, kind);
                due(32, at, at, 4, n - width + 1, at + 4, 1, kind);
                for (int big : new int[] {n, n + 1, 0x100 * 8, 0x10000, 0x1000000, 0x7fffffff, 0x80000000, -1, -width}) {
                    due(32, at, at, 4, big, at + 4, 1, kind);
                }
            }
        }
        int at = relas[0];
        int n = length(1);
        due(0, -1, at, 4, n, at + 4, 4, 51);
        due(32, at, at, 4, n + 1, at + 4, 4, 51);
        due(32, at, at, 4, -1, at + 4, 4, 51);
        due(32, at, at, 4, 0x1000000, at + 4, 4, 51);
        for (int addend : new int[] {0, 2, 4, 62}) {
            due(0, -1, at, 4, n - addend, at + 4, 4, 43, at + 8, 4, addend);
            due(32, at, at, 4, n - addend + 1, at + 4, 4, 43, at + 8, 4, addend);
            due(32, at, at, 4, -addend - 1, at + 4, 4, 43, at + 8, 4, addend);
        }
    }

    /** 33 and 34. */
    private static void starts() {
        int first = begin(5);
        int n = length(1);
        Check.due("starts", length(5), 8);
        due(33, first, first, 2, 1);
        due(0, -1, first + 6, 2, n - 2);
        due(33, first + 6, first + 6, 2, n);
        due(33, first + 6, first + 6, 2, n - 1);
        due(33, first + 6, first + 6, 2, n + 2);
        due(33, first + 6, first + 6, 2, 0x8000);
        due(33, first + 6, first + 6, 2, 65534);
        due(33, first + 4, first + 4, 2, number(first + 2, 2));
        due(33, first + 4, first + 4, 2, number(first + 2, 2) - 2);
        due(0, -1, first + 4, 2, number(first + 2, 2) + 2);
        due(33, first + 2, first + 2, 2, 0);
        due(33, first + 4, first, 2, 2, first + 2, 2, 4, first + 4, 2, 4, 36, 4, 0);
        due(34, 36, 36, 4, 0);
        // the byte at a START tells whether it is SHORT: both of its lowest bits
        int text = begin(1);
        for (int low = 0; low < 4; low++) {
            byte[] bytes = good.clone();
            for (int k = 0; k < 4; k++) {
                bytes[text + number(first + 2 * k, 2)] = 3;
            }
            bytes[text + number(first + 4, 2)] = (byte) (4 + low);
            dueOf("the lowest bits " + low, bytes, low == 3 ? 34 : 0, low == 3 ? 36 : -1);
            Check.put(bytes, 36, 4, 0);
            ChainHouse x = dueOf("the lowest bits " + low, bytes, low == 3 ? 0 : 34, low == 3 ? -1 : 36);
            if (low == 3) {
                Check.due("SHORT STARTS", x.object(4, 0, 3), 0);
            }
        }
        take("ecall\nfence");
        due(34, 36, 36, 4, 1);
        ChainHouse x = dueOf("no START is SHORT", good, 0, -1);
        Check.due("SHORT STARTS", x.object(4, 0, 3), 0);
        take(TEXT);
    }

    /** 19: .text, .rodata and .data of 2048 bytes, .bss of 4096, and one more; what doesn't come out even. */
    private static void rooms() {
        take(".bss\n.zero 4096\n.rodata\n.byte 1\n.data\n.byte 1\n.text\nnop\n.word x");
        // entries: .text .rodata .data .bss .starts .rela.text .symtab .strtab .shstrtab
        int end = good.length + 3 & ~3;
        int[][] most = {{1, 2048}, {2, 2048}, {3, 2048}};
        for (int[] m : most) {
            byte[] longer = Arrays.copyOf(good, end + 2052);
            Check.put(longer, entry(m[0]) + 16, 4, end);
            Check.put(longer, entry(m[0]) + 20, 4, m[1]);
            ChainHouse x = dueOf("2048 bytes", longer, 0, -1);
            Check.due("bytes", x.object(0, m[0] - 1, 0), 2048);
            Check.put(longer, entry(m[0]) + 20, 4, m[1] + 1);
            dueOf("2049 bytes", longer, 19, entry(m[0]) + 20);
        }
        due(0, -1, entry(4) + 20, 4, 4096);
        for (int bad : new int[] {4097, 8192, 0x10000, 0x1000000 + 5, 0x100000, 0x200000, -1, 0x80000000, 0x7fffffff}) {
            due(19, entry(4) + 20, entry(4) + 20, 4, bad);
        }
        due(33, begin(5), begin(5), 2, 7);
        due(19, entry(5) + 20, entry(5) + 20, 4, 1);
        due(0, -1, entry(5) + 20, 4, 0, 36, 4, 0);
        for (int bad : new int[] {1, 2, 3, 4, 6, 8, 11}) {
            due(19, entry(6) + 20, entry(6) + 20, 4, bad);
        }
        due(0, -1, entry(6) + 20, 4, 0);
        for (int bad : new int[] {0, 1, 8, 15, 17, 24, 31}) {
            due(19, entry(7) + 20, entry(7) + 20, 4, bad);
        }
        due(30, begin(6) + 4, entry(7) + 20, 4, 16, entry(7) + 28, 4, 1);
        // by entries: .text ahead of .bss ahead of .symtab, and 17 and 18 ahead of it
        due(19, entry(4) + 20, entry(4) + 20, 4, 4097, entry(7) + 20, 4, 15);
        due(17, entry(7) + 24, entry(4) + 20, 4, 4097, entry(7) + 24, 4, 1);
        // 100 symbols and 101
        StringBuilder names = new StringBuilder();
        for (int k = 0; k < 100; k++) {
            names.append("n").append(k).append(":");
        }
        ChainHouse x = Check.good(names.toString());
        Check.due("symbols", x.object(4, 0, 1), 100);
        int symtab = Check.number(x, 0, 32, 4) + 40 * 5;
        Check.due("bytes of .symtab", Check.number(x, 0, symtab + 20, 4), 16 * 101);
        Check.put(x, 0, symtab + 20, 4, 16 * 102);
        Check.due("101 symbols meet what is behind", x.check(0), 14);
        // .symtab is put behind all else
        x = Check.good(names.toString());
        int n = x.size(0);
        for (int k = 0; k < 16 * 102 / 8; k++) {
            x.extend(0, 8, 0);
        }
        Check.put(x, 0, symtab + 16, 4, n);
        Check.put(x, 0, symtab + 20, 4, 16 * 102);
        Check.due("101 symbols", x.check(0), 19);
        Check.due("place", x.object(5, 0, 0), symtab + 20);
        Check.put(x, 0, symtab + 20, 4, 16 * 101);
        Check.due("100 symbols without names", x.check(0), 22);
        Check.due("place", x.object(5, 0, 0), n + 16);
        take(TEXT);
    }

    /** 19: of all three .rela.. together 300. */
    private static void threeTogether() {
        String words = (".word x" + ",x".repeat(99) + "\n").repeat(2);
        String text = words + ".data\n.word x" + ",x".repeat(98) + "\n.rodata\n.word x";
        ChainHouse x = Check.good(text);
        Check.due("relocations", x.object(4, 0, 2), 300);
        int rows = Check.number(x, 0, 32, 4);
        // entries: .text .rodata .data .bss .rela.text .rela.rodata .rela.data ..
        int n = x.size(0);
        for (int k = 0; k < 1200 / 8; k++) {
            x.extend(0, 8, 0);
        }
        int data = rows + 40 * 7;
        Check.due("sort", Check.number(x, 0, data + 4, 4), 4);
        Check.due("bytes", Check.number(x, 0, data + 20, 4), 12 * 99);
        Check.put(x, 0, data + 16, 4, n);
        Check.put(x, 0, data + 20, 4, 12 * 100);
        Check.due("301 relocations", x.check(0), 19);
        Check.due("place: the one that goes beyond", x.object(5, 0, 0), data + 20);
        Check.put(x, 0, rows + 40 * 6 + 20, 4, 0);
        Check.due("300 of them", x.check(0), 29);
        Check.due("place: the first", x.object(5, 0, 0), n + 4);
    }

    /** What is missing is empty, with alignment 1. */
    private static void missing() {
        take(".rodata\n.align 4\n.byte 1,2,3\n.data\n.align 3\n.byte 4\n.bss\n.align 2\n.zero 8\n.text\n.byte 1, 2");
        // entries: .text .rodata .data .bss .symtab .strtab .shstrtab; .symtab and what is behind it come to the front, so many of the first four are there
        for (int there = 0; there <= 4; there++) {
            byte[] bytes = good.clone();
            for (int k = 0; k < 3; k++) {
                System.arraycopy(good, entry(5 + k), bytes, entry(1 + there + k), 40);
            }
            Check.put(bytes, entry(1 + there) + 24, 4, 2 + there);
            Check.put(bytes, 48, 2, 4 + there);
            Check.put(bytes, 50, 2, 3 + there);
            ChainHouse x = dueOf(there + " of the first four", bytes, 0, -1);
            int[] sizes = {2, 3, 1, 8};
            int[] alignments = {4, 16, 8, 4};
            for (int s = 0; s < 4; s++) {
                Check.due("bytes of section " + s, x.object(0, s, 0), s < there ? sizes[s] : 0);
                Check.due("alignment of section " + s, x.object(0, s, 1), s < there ? alignments[s] : 1);
            }
            for (int k = 0; k < 4; k++) {
                Check.due("none of list 4", x.object(4, 0, k), 0);
            }
            // 18: each of the last three is needed
            Check.put(bytes, 48, 2, 3 + there);
            dueOf("no .shstrtab", bytes, 9, 50);
            Check.put(bytes, 50, 2, 2 + there);
            bytes[begin(6)] = 0;
            ChainHouse y = Check.withFile(0, bytes);
            int fault = y.check(0);
            Check.due("the names' entry is .strtab, whose names are none", fault, 16);
        }
        byte[] bytes = good.clone();
        System.arraycopy(good, entry(6), bytes, entry(5), 80);
        Check.put(bytes, 48, 2, 7);
        Check.put(bytes, 50, 2, 6);
        dueOf("no .symtab", bytes, 18, 50);
        bytes = good.clone();
        System.arraycopy(good, entry(7), bytes, entry(6), 40);
        Check.put(bytes, 48, 2, 7);
        Check.put(bytes, 50, 2, 6);
        dueOf("no .strtab, which .symtab's link tells", bytes, 17, entry(5) + 24);
        take(TEXT);
    }

    /** object(): the last number that is, and the next one. */
    private static void told() {
        ChainHouse x = Check.withFile(3, good);
        Check.due("check", x.check(3), 0);
        int[][] lists = {{0, 4, 2}, {1, 4, 1}, {2, 9, 8}, {3, 11, 5}};
        for (int[] list : lists) {
            for (int k : new int[] {-1, list[1], list[1] + 1, 2147483647, -2147483648}) {
                for (int what = 0; what < 3; what++) {
                    Check.due("list " + list[0] + ", " + k, x.object(list[0], k, what), -1);
                }
            }
            for (int what : new int[] {-1, -2, -2147483648, 2147483647, list[2] + (list[0] == 2 ? 14 : 0)}) {
                Check.due("list " + list[0] + ", what " + what, x.object(list[0], 0, what), -1);
            }
            Check.due("list " + list[0] + " has the last one", list[0] == 0 ? x.object(0, 3, 0) : x.object(list[0], list[1] - 1, 0) + 1 - 1, list[0] == 0 ? 9 : list[0] == 1 ? 14 : list[0] == 2 ? 4 : 2);
        }
        for (int what : new int[] {-1, 4, 5, 2147483647, -2147483648}) {
            Check.due("list 4", x.object(4, 0, what), -1);
            Check.due("list 5", x.object(5, 0, what == 4 ? 1 : what), -1);
        }
        for (int list : new int[] {-1, 6, 7, 2147483647, -2147483648}) {
            Check.due("list " + list, x.object(list, 0, 0), -1);
        }
        for (int k : new int[] {0, -1, 2147483647, -2147483648}) {
            Check.due("k is not looked at", x.object(4, k, 1), 9);
            Check.due("k is not looked at", x.object(5, k, 0), -1);
        }
        // a name of one character, and of 16
        take("abcdefghijklmnop: q: nop");
        x = Check.withFile(0, good);
        x.check(0);
        for (int c = 0; c < 16; c++) {
            Check.due("character", x.object(2, 0, 6 + c), 'a' + c);
        }
        Check.due("behind", x.object(2, 0, 22), -1);
        Check.due("length", x.object(2, 1, 5), 1);
        Check.due("character", x.object(2, 1, 6), 'q');
        Check.due("behind", x.object(2, 1, 7), -1);
        take(TEXT);
    }

    /** The READ object stays with a FAULT, and with an exception; the PLACE is that of the latest check. */
    private static void stays() {
        ChainHouse x = new ChainHouse();
        Check.due("PLACE ahead of a check", x.object(5, 0, 0), -1);
        Check.due("check of nothing", x.check(5), 1);
        Check.due("PLACE", x.object(5, 0, 0), 0);
        Check.setFile(x, 3, good);
        Check.due("check", x.check(3), 0);
        Check.due("PLACE", x.object(5, 0, 0), -1);
        String symbols = Check.symbols(x);
        String starts = Check.starts(x);
        for (int unit : new int[] {-1, 6, 2147483647, -2147483648}) {
            Check.due("check", Check.check(x, unit), Check.INDEX);
            Check.due("PLACE stays", x.object(5, 0, 0), -1);
        }
        x.spoil(3, entry(9) + 28, 77);
        Check.due("check", x.check(3), 28);
        Check.due("PLACE", x.object(5, 0, 0), entry(9) + 28);
        for (int what : new int[] {-1, 1, 2, 2147483647, -2147483648}) {
            Check.due("what " + what + " of list 5", x.object(5, 0, what), -1);
        }
        Check.due("check", Check.check(x, 6), Check.INDEX);
        Check.due("PLACE stays", x.object(5, 0, 0), entry(9) + 28);
        Check.due("the symbols stay", Check.symbols(x), symbols);
        Check.due("the starts stay", Check.starts(x), starts);
        Check.due("check of nothing", x.check(0), 1);
        Check.due("the bytes stay", x.object(0, 3, 0), 9);
        Check.due("the relocations stay", x.object(4, 0, 2), 11);
        // a FILE alone, without check, and a link are no READ object
        Check.assemble(x, 3, ".globl _start\n_start: nop");
        Check.due("the relocations stay", x.object(4, 0, 2), 11);
        Check.due("link", Check.link(x, 8, true) > 0, true);
        Check.due("the relocations stay", x.object(4, 0, 2), 11);
        Check.due("PLACE stays", x.object(5, 0, 0), 0);
        Check.due("check", x.check(3), 0);
        Check.due("another object", x.object(4, 0, 2), 0);
        Check.due("PLACE", x.object(5, 0, 0), -1);
    }
}
