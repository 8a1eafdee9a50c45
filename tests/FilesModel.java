import java.util.ArrayList;
import java.util.List;
import java.util.zip.CRC32;

/** Plain readers of the sections 3 and 5, for tests: the FAULT of a file's bytes, and its PLACE. */
public final class FilesModel {
    private static final String NAMES = " .text .rodata .data .bss .starts .rela.text .rela.rodata .rela.data .symtab .strtab .shstrtab ";
    private final byte[] f;
    /** The PLACE of the FAULT; -1 without one. */
    public int place = -1;
    /** Of an image that was read up to its SUM: what that should be. */
    public long rightSum;

    public FilesModel(byte[] file) {
        f = file;
    }

    public long u(long at, int width) {
        long v = 0;
        for (int k = width - 1; k >= 0; k--) {
            v = v << 8 | f[(int) at + k] & 255;
        }
        return v;
    }

    private int fault(int number, long at) {
        place = (int) at;
        return number;
    }

    private int header(int sort) {
        if (f.length < 52) {
            return fault(1, f.length);
        }
        int[] first = {127, 69, 76, 70, 1, 1, 1, 0, 0, 0, 0, 0, 0, 0, 0, 0};
        for (int k = 0; k < 16; k++) {
            if ((f[k] & 255) != first[k]) {
                return fault(k < 4 ? 2 : k == 4 ? 3 : k == 5 ? 4 : k == 6 ? 5 : 6, k);
            }
        }
        if (u(16, 2) != sort) {
            return fault(7, 16);
        }
        return u(18, 2) != 243 ? fault(8, 18) : 0;
    }

    /** The first of some numbers (place, width, least, greatest) that can't be; 0 without one. */
    private int numbers(long[][] rows) {
        for (long[] row : rows) {
            long v = u(row[0], (int) row[1]);
            if (v < row[2] || v > row[3] || (row[0] == 32 || row[0] == 28) && row[3] > 52 && v % 4 != 0) {
                return fault(9, row[0]);
            }
        }
        return 0;
    }

    private static boolean meet(long a, long n, long b, long m) {
        return n > 0 && m > 0 && a < b + m && b < a + n;
    }

    private String string(long from, long end) {
        StringBuilder s = new StringBuilder();
        for (long k = from; k < end && f[(int) k] != 0; k++) {
            s.append((char) (f[(int) k] & 255));
        }
        return s.toString();
    }

    private static boolean power(long v, long most) {
        return v >= 1 && v <= most && Long.bitCount(v) == 1;
    }

    public int readObject() {
        int head = header(1);
        if (head != 0) {
            return head;
        }
        long count = u(48, 2);
        head = numbers(new long[][] {{20, 4, 1, 1}, {24, 4, 0, 0}, {28, 4, 0, 0}, {32, 4, 52, 1L << 32}, {36, 4, 0, 1}, {40, 2, 52, 52}, {42, 2, 0, 0}, {44, 2, 0, 0}, {46, 2, 40, 40}, {48, 2, 1, 16}, {50, 2, 1, count - 1}});
        if (head != 0) {
            return head;
        }
        long table = u(32, 4);
        if (table + 40 * count > f.length) {
            return fault(10, 32);
        }
        for (int k = 0; k < 10; k++) {
            if (u(table + 4 * k, 4) != 0) {
                return fault(11, table + 4 * k);
            }
        }
        for (int e = 1; e < count; e++) {
            int bad = readEntry(table, count, table + 40 * e, e);
            if (bad != 0) {
                return bad;
            }
        }
        return readNames(table, (int) count);
    }

    private int readEntry(long table, long count, long row, int e) {
        long sort = u(row + 4, 4);
        if (sort != 1 && sort != 2 && sort != 3 && sort != 4 && sort != 8) {
            return fault(11, row + 4);
        }
        long begin = u(row + 16, 4);
        long n = u(row + 20, 4);
        if (sort != 8 && (begin + n > f.length || n > 0 && begin < 52)) {
            return fault(12, row + 16);
        }
        long alignment = u(row + 32, 4);
        if (!power(alignment, 64) || sort != 8 && begin % alignment != 0) {
            return fault(13, row + 32);
        }
        if (sort != 8) {
            boolean met = meet(begin, n, table, 40 * count);
            for (int k = 1; k < e; k++) {
                long other = table + 40 * k;
                met = met || u(other + 4, 4) != 8 && meet(begin, n, u(other + 16, 4), u(other + 20, 4));
            }
            if (met) {
                return fault(14, row + 16);
            }
        }
        return 0;
    }

    private int readNames(long table, int count) {
        long names = table + 40 * u(50, 2);
        long begin = u(names + 16, 4);
        long n = u(names + 20, 4);
        if (u(names + 4, 4) != 3) {
            return fault(15, names + 4);
        }
        if (n == 0) {
            return fault(15, names + 20);
        }
        if (f[(int) begin] != 0) {
            return fault(15, begin);
        }
        if (f[(int) (begin + n - 1)] != 0) {
            return fault(15, begin + n - 1);
        }
        List<String> all = new ArrayList<>();
        all.add("");
        for (int e = 1; e < count; e++) {
            long at = u(table + 40 * e, 4);
            String name = at < n ? string(begin + at, begin + n) : "";
            if (name.isEmpty() || name.contains(" ") || !NAMES.contains(" " + name + " ") || all.contains(name)) {
                return fault(16, table + 40 * e);
            }
            all.add(name);
        }
        for (int e = 1; e < count; e++) {
            int bad = readLike(table + 40 * e, all.get(e), all);
            if (bad != 0) {
                return bad;
            }
        }
        if (!all.contains(".symtab") || !all.contains(".strtab") || !all.get((int) u(50, 2)).equals(".shstrtab")) {
            return fault(18, 50);
        }
        return readRooms(table, all);
    }

    private int readLike(long row, String name, List<String> all) {
        boolean rela = name.startsWith(".rela");
        long sort = name.equals(".bss") ? 8 : rela ? 4 : name.equals(".symtab") ? 2 : name.endsWith("strtab") ? 3 : 1;
        long flags = name.equals(".text") ? 6 : name.equals(".rodata") ? 2 : name.equals(".data") || name.equals(".bss") ? 3 : rela ? 64 : 0;
        long link = rela ? all.indexOf(".symtab") : name.equals(".symtab") ? all.indexOf(".strtab") : 0;
        long info = rela ? all.indexOf(name.substring(5)) : 0;
        long each = name.equals(".starts") ? 2 : rela ? 12 : name.equals(".symtab") ? 16 : 0;
        long[][] want = {{4, sort}, {8, flags}, {12, 0}, {24, link}, {28, info}, {36, each}};
        for (long[] w : want) {
            if (u(row + w[0], 4) != w[1] && !(w[0] == 28 && name.equals(".symtab"))) {
                return fault(17, row + w[0]);
            }
        }
        return 0;
    }

    private long[] part(long table, List<String> all, String name) {
        int e = all.indexOf(name);
        return e < 0 ? new long[] {0, 0, 1, 0} : new long[] {u(table + 40 * e + 16, 4), u(table + 40 * e + 20, 4), u(table + 40 * e + 32, 4), table + 40 * e};
    }

    private int readRooms(long table, List<String> all) {
        long relocations = 0;
        for (int e = 1; e < all.size(); e++) {
            String name = all.get(e);
            long n = u(table + 40 * e + 20, 4);
            boolean good = true;
            if (name.equals(".text") || name.equals(".rodata") || name.equals(".data")) {
                good = n <= 2048;
            } else if (name.equals(".bss")) {
                good = n <= 4096;
            } else if (name.equals(".starts")) {
                good = n % 2 == 0 && n / 2 <= 1024;
            } else if (name.startsWith(".rela")) {
                relocations += n / 12;
                good = n % 12 == 0 && relocations <= 300;
            } else if (name.equals(".symtab")) {
                good = n % 16 == 0 && n >= 16 && n <= 16 * 101;
            }
            if (!good) {
                return fault(19, table + 40 * e + 20);
            }
        }
        long[] strings = part(table, all, ".strtab");
        if (strings[1] == 0) {
            return fault(20, strings[3] + 20);
        }
        if (f[(int) strings[0]] != 0) {
            return fault(20, strings[0]);
        }
        if (f[(int) (strings[0] + strings[1] - 1)] != 0) {
            return fault(20, strings[0] + strings[1] - 1);
        }
        return readSymbols(table, all, strings);
    }

    private int readSymbols(long table, List<String> all, long[] strings) {
        long[] symtab = part(table, all, ".symtab");
        for (long k = symtab[0]; k < symtab[0] + 16; k++) {
            if (f[(int) k] != 0) {
                return fault(21, k);
            }
        }
        List<String> open = new ArrayList<>();
        int locals = 1;
        for (long at = symtab[0] + 16; at < symtab[0] + symtab[1]; at += 16) {
            String name = u(at, 4) < strings[1] ? string(strings[0] + u(at, 4), strings[0] + strings[1]) : "";
            boolean good = name.length() >= 1 && name.length() <= 16;
            for (char c : name.toCharArray()) {
                good = good && c >= 33 && c <= 126;
            }
            if (!good) {
                return fault(22, at);
            }
            int bind = (int) u(at + 12, 1) / 16;
            if (bind > 2 || u(at + 12, 1) % 16 > 2) {
                return fault(23, at + 12);
            }
            if (u(at + 13, 1) != 0) {
                return fault(23, at + 13);
            }
            if (bind == 0 && !open.isEmpty()) {
                return fault(24, at + 12);
            }
            int bad = readNumbers(table, all, at, bind);
            if (bad != 0) {
                return bad;
            }
            if (bind != 0 && open.contains(name)) {
                return fault(27, at);
            }
            if (bind == 0) {
                locals++;
            } else {
                open.add(name);
            }
        }
        if (u(symtab[3] + 28, 4) != locals) {
            return fault(28, symtab[3] + 28);
        }
        for (String section : new String[] {".text", ".rodata", ".data"}) {
            int bad = readRelocations(section, part(table, all, section)[1], part(table, all, ".rela" + section), symtab[1] / 16);
            if (bad != 0) {
                return bad;
            }
        }
        return readStarts(part(table, all, ".starts"), part(table, all, ".text"));
    }

    private int readNumbers(long table, List<String> all, long at, int bind) {
        long where = u(at + 14, 2);
        long value = u(at + 4, 4);
        long size = u(at + 8, 4);
        boolean[] good = {true, size < 1L << 31, true};
        if (where == 0) {
            good = new boolean[] {value == 0, size == 0, bind != 0};
        } else if (where == 65522) {
            good = new boolean[] {power(value, 64), size >= 1 && size <= 4096, bind == 1};
        } else if (where != 65521) {
            String name = where < all.size() ? all.get((int) where) : "";
            if (!name.equals(".text") && !name.equals(".rodata") && !name.equals(".data") && !name.equals(".bss")) {
                return fault(25, at + 14);
            }
            long n = part(table, all, name)[1];
            good = new boolean[] {value <= n, value + size <= n, true};
        }
        int[] places = {4, 8, 12};
        for (int k = 0; k < 3; k++) {
            if (!good[k]) {
                return fault(26, at + places[k]);
            }
        }
        return 0;
    }

    private int readRelocations(String section, long n, long[] rela, long symbols) {
        for (long at = rela[0]; at < rela[0] + rela[1]; at += 12) {
            int kind = (int) u(at + 4, 1);
            long symbol = u(at + 5, 3);
            int addend = (int) u(at + 8, 4);
            long width;
            switch (kind) {
                case 33: case 37: width = 1; break;
                case 34: case 38: case 44: case 45: width = 2; break;
                case 1: case 16: case 17: case 23: case 24: case 25: case 26: case 27: case 28: case 35: case 39: width = 4; break;
                case 19: width = 8; break;
                case 51: width = 0; break;
                case 43: width = addend; break;
                default: return fault(29, at + 4);
            }
            boolean data = kind == 1 || kind == 33 || kind == 34 || kind == 35 || kind == 37 || kind == 38 || kind == 39;
            if (!section.equals(".text") && !data) {
                return fault(29, at + 4);
            }
            boolean none = kind == 43 || kind == 51;
            if (symbol >= symbols || none && symbol != 0 || !none && symbol == 0) {
                return fault(30, at + 4);
            }
            if (kind == 43 && (addend < 0 || addend > 62 || addend % 2 != 0)) {
                return fault(31, at + 8);
            }
            if (u(at, 4) + width > n) {
                return fault(32, at);
            }
        }
        return 0;
    }

    private int readStarts(long[] starts, long[] text) {
        long before = -1;
        boolean any = false;
        for (long at = starts[0]; at < starts[0] + starts[1]; at += 2) {
            long start = u(at, 2);
            if (start % 2 != 0 || start <= before || start >= text[1]) {
                return fault(33, at);
            }
            before = start;
            any = any || u(text[0] + start, 1) % 4 != 3;
        }
        return u(36, 4) == (any ? 1 : 0) ? fault(0, -1) : fault(34, 36);
    }

    public int readImage() {
        int head = header(2);
        if (head != 0) {
            return head;
        }
        head = numbers(new long[][] {{20, 4, 1, 1}, {28, 4, 52, 1L << 32}, {32, 4, 0, 0}, {36, 4, 0, 1}, {40, 2, 52, 52}, {42, 2, 32, 32}, {44, 2, 1, 8}, {46, 2, 0, 0}, {48, 2, 0, 0}, {50, 2, 0, 0}});
        if (head != 0) {
            return head;
        }
        long table = u(28, 4);
        int count = (int) u(44, 2);
        if (table + 32 * count > f.length) {
            return fault(10, 28);
        }
        long[] rows = {-1, -1, -1, -1};
        for (int k = 0; k < count; k++) {
            int bad = readRow(table, count, k, rows);
            if (bad != 0) {
                return bad;
            }
        }
        return readSegments(rows);
    }

    private int readRow(long table, int count, int k, long[] rows) {
        long row = table + 32 * k;
        long sort = u(row, 4);
        if (sort == 0) {
            return 0;
        }
        boolean note = sort == 4;
        if (sort != 1 && !note) {
            return fault(11, row);
        }
        long begin = u(row + 4, 4);
        long address = u(row + 8, 4);
        long n = u(row + 16, 4);
        long all = u(row + 20, 4);
        long rights = u(row + 24, 4);
        long page = u(row + 28, 4);
        if (begin + n > f.length || n > 0 && begin < 52) {
            return fault(12, row + 4);
        }
        if (!power(page, 4096) || (note ? begin % 4 != 0 : begin % page != address % page)) {
            return fault(13, row + 28);
        }
        if (note ? rights != 4 : rights < 4 || rights > 6) {
            return fault(14, row + 24);
        }
        int which = note ? 3 : rights == 5 ? 0 : rights == 4 ? 1 : 2;
        if (rows[which] >= 0) {
            return fault(14, row + 24);
        }
        rows[which] = row;
        if (note ? address != 0 : address > 131071) {
            return fault(15, row + 8);
        }
        if (u(row + 12, 4) != address) {
            return fault(16, row + 12);
        }
        if (!note && n > 4096) {
            return fault(17, row + 16);
        }
        if (note ? all != 0 : all < n || all - n > 32768 || which < 2 && all != n) {
            return fault(18, row + 20);
        }
        boolean met = meet(begin, n, table, 32 * count);
        for (int j = 0; j < k; j++) {
            long other = table + 32 * j;
            met = met || u(other, 4) != 0 && meet(begin, n, u(other + 4, 4), u(other + 16, 4));
        }
        return met ? fault(19, row + 4) : 0;
    }

    private int readSegments(long[] rows) {
        long n = rows[0] < 0 ? 0 : u(rows[0] + 16, 4);
        if (n == 0 || n % 2 != 0) {
            return fault(21, 44);
        }
        for (int s = 0; s < 3; s++) {
            if (rows[s] >= 0 && u(rows[s] + 8, 4) + u(rows[s] + 20, 4) > 131072) {
                return fault(22, rows[s] + 20);
            }
        }
        int[][] pairs = {{0, 1}, {0, 2}, {1, 2}};
        for (int[] p : pairs) {
            long a = rows[p[0]];
            long b = rows[p[1]];
            if (a >= 0 && b >= 0 && meet(u(a + 8, 4), u(a + 20, 4), u(b + 8, 4), u(b + 20, 4))) {
                return fault(23, Math.max(a, b) + 8);
            }
        }
        if (rows[3] < 0) {
            return fault(24, 44);
        }
        return readNote(rows, n);
    }

    private int readNote(long[] rows, long n) {
        long note = u(rows[3] + 4, 4);
        long length = u(rows[3] + 16, 4);
        if (length < 28) {
            return fault(25, rows[3] + 16);
        }
        long[] want = {6, length - 20, 1};
        for (int k = 0; k < 3; k++) {
            if (u(note + 4 * k, 4) != want[k]) {
                return fault(25, note + 4 * k);
            }
        }
        int[] name = {77, 97, 114, 107, 115, 0, 0, 0};
        for (int k = 0; k < 8; k++) {
            if (u(note + 12 + k, 1) != name[k]) {
                return fault(25, note + 12 + k);
            }
        }
        if (u(note + 20, 4) != n / 2) {
            return fault(25, note + 20);
        }
        long bytes = (n + 15) / 16;
        if (length != 28 + (bytes + 3) / 4 * 4) {
            return fault(25, rows[3] + 16);
        }
        for (long bit = n / 2; bit < 8 * (length - 28); bit++) {
            if ((u(note + 28 + bit / 8, 1) >> bit % 8 & 1) != 0) {
                return fault(26, note + 28 + bit / 8);
            }
        }
        return readMarks(rows, n, note);
    }

    private boolean mark(long note, long k) {
        return (u(note + 28 + k / 8, 1) >> k % 8 & 1) != 0;
    }

    private int readMarks(long[] rows, long n, long note) {
        long text = u(rows[0] + 4, 4);
        boolean any = false;
        for (long k = 0; k < n / 2; k++) {
            if (mark(note, k)) {
                boolean wide = u(text + 2 * k, 1) % 4 == 3;
                any = any || !wide;
                if (wide && (2 * k + 4 > n || mark(note, k + 1))) {
                    return fault(27, note + 28 + k / 8);
                }
            }
        }
        long offset = u(24, 4) - u(rows[0] + 8, 4);
        if (offset < 0 || offset >= n || offset % 2 != 0 || !mark(note, offset / 2)) {
            return fault(28, 24);
        }
        rightSum = sum(rows, n, note);
        if (u(note + 24, 4) != rightSum) {
            return fault(29, note + 24);
        }
        if (u(36, 4) != (any ? 1 : 0)) {
            return fault(30, 36);
        }
        return u(24, 4) % 2 != 0 ? fault(31, 24) : fault(0, -1);
    }

    private long sum(long[] rows, long n, long note) {
        CRC32 sum = new CRC32();
        update(sum, u(24, 4));
        for (int s = 0; s < 3; s++) {
            if (rows[s] >= 0) {
                update(sum, u(rows[s] + 8, 4));
                update(sum, u(rows[s] + 20, 4) - u(rows[s] + 16, 4));
                sum.update(f, (int) u(rows[s] + 4, 4), (int) u(rows[s] + 16, 4));
            }
        }
        sum.update(f, (int) note + 28, (int) (n + 15) / 16);
        return sum.getValue();
    }

    private static void update(CRC32 sum, long v) {
        for (int k = 0; k < 4; k++) {
            sum.update((int) (v >> 8 * k) & 255);
        }
    }
}
