import java.util.Arrays;

/** Sections 5 and 9, sentence by sentence: GOOD, the FAULTS 1 to 31 with their PLACES, writing and loading, and what stays. */
public final class EdgesImageTest {
    /** TEXT: nop at 0, mul at 2, nop at 6; CONST of 3 bytes, DATA of 8 bytes and MORE. */
    private static final String TEXT = ".globl _start\n_start: nop\nmul a0, a0, a1\nnop\n.rodata\n.byte 1,2,3\n.data\n.word 5,6\n.bss\n.zero 100";
    private static final int ROW0 = 52;
    private static final int ROW1 = 84;
    private static final int ROW2 = 116;
    private static final int NOTE_ROW = 148;
    private static final int NOTE = 232;
    private static byte[] good;

    public static void main(String[] args) {
        good = Check.file(() -> linked(TEXT), -1);
        headerBytes();
        headerNumbers();
        tablePlaces();
        rowNumbers();
        rowsOfNothing();
        pages();
        meetings();
        rightsTwice();
        memories();
        pairs();
        noteNumbers();
        markBits();
        wrongMarks();
        entries();
        sums();
        odd();
        great();
        written();
        loaded();
        again();
        stays();
        Check.end();
    }

    private static ChainHouse linked(String text) {
        ChainHouse x = Check.good(text);
        Check.linkAndLoad(x, 1, true);
        return x;
    }

    private static int number(int at, int width) {
        return Check.number(good, at, width);
    }

    private static byte[] altered(byte[] from, int... changes) {
        byte[] bytes = from.clone();
        for (int c = 0; c < changes.length; c += 3) {
            Check.put(bytes, changes[c], changes[c + 1], changes[c + 2]);
        }
        return bytes;
    }

    /** The good file with some numbers altered (place, width, value ..) has a fault at a place. */
    private static void due(int fault, int place, int... changes) {
        dueOf(Arrays.toString(changes), altered(good, changes), false, fault, place);
    }

    /** Likewise, with the right SUM. */
    private static void summed(int fault, int place, int... changes) {
        dueOf(Arrays.toString(changes), altered(good, changes), true, fault, place);
    }

    private static ChainHouse dueOf(String told, byte[] bytes, boolean fixed, int fault, int place) {
        ChainHouse x = Check.withFile(-1, bytes);
        if (fixed) {
            Check.fixSum(x);
        }
        Check.due("load: " + told, x.load(), fault);
        Check.due("place: " + told, x.place(), place);
        Check.due("PC: " + told, fault != 0 && x.get(32) != 0, false);
        return x;
    }

    /** 1 to 8: each byte, each bit of it. */
    private static void headerBytes() {
        for (int n : new int[] {0, 1, 4, 16, 51}) {
            dueOf("cut " + n, Arrays.copyOf(good, n), false, 1, n);
        }
        dueOf("cut 52", Arrays.copyOf(good, 52), false, 10, 28);
        for (int k = 0; k < 20; k++) {
            int fault = k < 4 ? 2 : k < 7 ? k - 1 : k < 16 ? 6 : k < 18 ? 7 : 8;
            int place = k < 16 ? k : k < 18 ? 16 : 18;
            for (int bit = 0; bit < 8; bit++) {
                due(fault, place, k, 1, good[k] ^ 1 << bit);
            }
            if (k < 19) {
                due(fault, place, k, 1, good[k] + 1, k + 1, 1, good[k + 1] + 1, 20, 1, 9);
            }
        }
    }

    /** 9 and 10: each bit of the numbers that may be one value alone, and the ends of the others. */
    private static void headerNumbers() {
        for (int at : new int[] {20, 32}) {
            for (int bit = 0; bit < 32; bit++) {
                due(9, at, at, 4, number(at, 4) ^ 1 << bit);
            }
        }
        for (int version : new int[] {0, 2, 3, -1}) {
            due(9, 20, 20, 4, version);
        }
        for (int at : new int[] {40, 42, 46, 48, 50}) {
            for (int bit = 0; bit < 16; bit++) {
                due(9, at, at, 2, number(at, 2) ^ 1 << bit);
            }
        }
        for (int v : new int[] {0, 4, 48, 49, 50, 51, 53, 54, 55, 57, -1, -2, -3, 52 + 0x1000001}) {
            due(9, 28, 28, 4, v);
        }
        for (int v : new int[] {0x100 + 52, 0x10000 + 52, 0x1000000 + 52, 0x40000000 + 52, 0x80000000 + 52, -4, 0x7ffffffc}) {
            due(10, 28, 28, 4, v);
        }
        for (int bit = 1; bit < 32; bit++) {
            due(9, 36, 36, 4, 1 << bit);
            due(9, 36, 36, 4, 1 | 1 << bit);
        }
        for (int v : new int[] {0, 9, 16, 4 + 256, -1, 255}) {
            due(9, 44, 44, 2, v);
        }
        due(24, 44, 44, 2, 1);
        due(24, 44, 44, 2, 3);
        due(10, 28, 44, 2, 8);
        // each of the numbers ahead of the next one
        int[][] wrong = {{20, 4, 9}, {28, 4, 9}, {32, 4, 9}, {36, 4, 9}, {40, 2, 9}, {42, 2, 9}, {44, 2, 9}, {46, 2, 9}, {48, 2, 9}, {50, 2, 9}};
        for (int k = 0; k + 1 < wrong.length; k++) {
            due(9, wrong[k][0], wrong[k][0], wrong[k][1], wrong[k][2], wrong[k + 1][0], wrong[k + 1][1], wrong[k + 1][2]);
        }
        due(10, 28, 28, 4, 0x1000, ROW0, 4, 9);
    }

    /** The TABLE behind all else, up to the FILE's end; a segment and a NOTE that begin at 52. */
    private static void tablePlaces() {
        int size = 128;
        int all = good.length - 52 - size;
        byte[] bytes = new byte[good.length];
        System.arraycopy(good, 0, bytes, 0, 52);
        System.arraycopy(good, 52 + size, bytes, 52, all);
        System.arraycopy(good, 52, bytes, 52 + all, size);
        int table = 52 + all;
        Check.due("the TABLE's place", table % 4, 0);
        Check.put(bytes, 28, 4, table);
        for (int r = 0; r < 4; r++) {
            Check.put(bytes, table + 32 * r + 4, 4, number(52 + 32 * r + 4, 4) - size);
            Check.put(bytes, table + 32 * r + 28, 4, 4);
        }
        dueOf("the TABLE up to the FILE's end", bytes, false, 0, -1);
        dueOf("a byte less", Arrays.copyOf(bytes, bytes.length - 1), false, 10, 28);
        dueOf("a byte more", Arrays.copyOf(bytes, bytes.length + 1), false, 0, -1);
        // padding between the TABLE's old end and TEXT's bytes: TEXT begins at 64, may begin at 52
        byte[] at52 = altered(bytes, table + 4, 4, 52);
        System.arraycopy(good, 192, at52, 52, 8);
        dueOf("TEXT at 52", at52, false, 0, -1);
        dueOf("TEXT at 48", altered(at52, table + 4, 4, 48), false, 12, table + 4);
        dueOf("TEXT at 51", altered(at52, table + 4, 4, 51), false, 12, table + 4);
        // nine rows don't fit in, eight may be
        byte[] eight = Arrays.copyOf(bytes, bytes.length + 128);
        Check.put(eight, 44, 2, 8);
        dueOf("eight rows", eight, false, 0, -1);
        dueOf("eight rows, a byte less", Arrays.copyOf(eight, eight.length - 1), false, 10, 28);
        Check.put(eight, 44, 2, 9);
        dueOf("nine rows", eight, false, 9, 44);
        // the last row is looked at, too
        Check.put(eight, 44, 2, 8);
        Check.put(eight, table + 7 * 32, 4, 2);
        dueOf("the eighth row", eight, false, 11, table + 7 * 32);
    }

    /** 11 to 18: each number of a row, with its higher bytes. */
    private static void rowNumbers() {
        int[] rows = {ROW0, ROW1, ROW2, NOTE_ROW};
        for (int r = 0; r < 4; r++) {
            int row = rows[r];
            boolean note = r == 3;
            for (int bit = 0; bit < 32; bit++) {
                int v = number(row, 4) ^ 1 << bit;
                if (v != 0) {
                    due(11, row, row, 4, v);
                }
            }
            for (int up = 16; up < 32; up += 8) {
                due(12, row + 4, row + 4, 4, number(row + 4, 4) + (1 << up));
                due(12, row + 4, row + 16, 4, number(row + 16, 4) + (1 << up));
                due(13, row + 28, row + 28, 4, number(row + 28, 4) + (1 << up));
                due(14, row + 24, row + 24, 4, number(row + 24, 4) + (1 << up));
                if (up > 16) {
                    due(15, row + 8, row + 8, 4, number(row + 8, 4) + (1 << up));
                }
                due(16, row + 12, row + 12, 4, number(row + 12, 4) + (1 << up));
                due(18, row + 20, row + 20, 4, number(row + 20, 4) + (1 << up));
            }
            due(12, row + 4, row + 4, 4, -1);
            due(12, row + 4, row + 4, 4, 0x80000000);
            due(12, row + 4, row + 16, 4, 0x80000000);
            due(12, row + 4, row + 16, 4, -number(row + 4, 4));
            due(15, row + 8, row + 8, 4, 0x80000000 + number(row + 8, 4));
            due(16, row + 12, row + 12, 4, number(row + 12, 4) + 1);
            due(16, row + 12, row + 12, 4, number(row + 12, 4) - 1);
            for (int sort : new int[] {2, 3, 5, 6, 7, 8, 255, -1}) {
                due(11, row, row, 4, sort);
            }
            // 12: up to the FILE's end and a byte more
            int length = number(row + 16, 4);
            due(12, row + 4, row + 4, 4, good.length - length + 1);
            due(12, row + 4, row + 4, 4, good.length + 1, row + 16, 4, 0);
            due(12, row + 4, row + 4, 4, 51);
            due(12, row + 4, row + 4, 4, 0);
            // 13
            for (int page : new int[] {0, 3, 5, 6, 7, 12, 4095, 4097, 8192, 6144, -1, 0x80000000}) {
                due(13, row + 28, row + 28, 4, page);
            }
            // 14
            int rights = number(row + 24, 4);
            for (int v : new int[] {0, 1, 2, 3, 7, 8, 255, note ? 5 : -1, note ? 6 : -2}) {
                due(14, row + 24, row + 24, 4, v);
            }
            // in their order
            due(11, row, row, 4, 9, row + 4, 4, -1);
            due(12, row + 4, row + 4, 4, -1, row + 28, 4, 3);
            due(13, row + 28, row + 28, 4, 3, row + 24, 4, 9);
            due(14, row + 24, row + 24, 4, 9, row + 8, 4, -16);
            due(15, row + 8, row + 8, 4, 0x40000000, row + 12, 4, 5);
            due(16, row + 12, row + 12, 4, 5, row + 20, 4, 0x70000000);
            if (r < 3) {
                due(rights == 0 ? 1 : 11, row, row, 4, 9, rows[r + 1], 4, 9);
                due(16, row + 12, row + 12, 4, 5, rows[r + 1], 4, 9);
            }
        }
        due(15, ROW1 + 8, ROW1 + 8, 4, 131072, ROW1 + 12, 4, 131072);
        due(0 + 22, ROW1 + 20, ROW1 + 8, 4, 131071, ROW1 + 12, 4, 131071, ROW1 + 28, 4, 1);
        due(15, NOTE_ROW + 8, NOTE_ROW + 8, 4, 1);
        due(15, NOTE_ROW + 8, NOTE_ROW + 8, 4, 0x80000000);
        due(18, NOTE_ROW + 20, NOTE_ROW + 20, 4, 1);
        due(18, NOTE_ROW + 20, NOTE_ROW + 20, 4, 32);
        // 18: of TEXT and CONST the same number, of DATA up to 32,768 more
        for (int row : new int[] {ROW0, ROW1}) {
            due(18, row + 20, row + 20, 4, number(row + 20, 4) + 1);
            due(18, row + 20, row + 20, 4, number(row + 20, 4) - 1);
            due(18, row + 20, row + 20, 4, 0);
        }
        for (int v : new int[] {0, 7, 8 + 32769, 8 + 65536, -1, 0x80000008}) {
            due(18, ROW2 + 20, ROW2 + 20, 4, v);
        }
        for (int v : new int[] {8, 9, 8 + 32767, 8 + 32768}) {
            summed(0, -1, ROW2 + 20, 4, v);
        }
        ChainHouse x = dueOf("the most of MORE", altered(good, ROW2 + 20, 4, 8 + 32768), true, 0, -1);
        Check.due("the last byte", x.rights(65568 + 8 + 32767), 3);
        Check.due("behind it", x.rights(65568 + 8 + 32768), 0);
        x = dueOf("no MORE", altered(good, ROW2 + 20, 4, 8), true, 0, -1);
        Check.due("the last byte", x.rights(65568 + 7), 3);
        Check.due("behind it", x.rights(65568 + 8), 0);
    }

    /** A row of sort 0 counts for nothing. */
    private static void rowsOfNothing() {
        for (int k = 4; k < 32; k += 4) {
            for (int v : new int[] {0, 1, -1, 0x80000000, 192}) {
                summed(0, -1, ROW1, 4, 0, ROW1 + k, 4, v);
            }
        }
        // its rights and its bytes neither
        summed(0, -1, ROW1, 4, 0, ROW2 + 24, 4, 4, ROW2 + 20, 4, 8);
        summed(0, -1, ROW1, 4, 0, ROW2 + 4, 4, 208);
        summed(0, -1, ROW1, 4, 0, ROW1 + 4, 4, 224, ROW1 + 16, 4, 8);
        ChainHouse x = dueOf("without CONST", altered(good, ROW1, 4, 0), true, 0, -1);
        Check.due("no rights", x.rights(65552), 0);
        Check.due("no bytes", x.peek(65552), 0);
        x = dueOf("without DATA", altered(good, ROW2, 4, 0), true, 0, -1);
        Check.due("no rights", x.rights(65568), 0);
        Check.due("register 3", x.get(3), 0);
        due(21, 44, ROW0, 4, 0);
        due(24, 44, NOTE_ROW, 4, 0);
        due(21, 44, ROW0, 4, 0, NOTE_ROW, 4, 0);
    }

    /** 13: each power of two, and the rests that must be the same. */
    private static void pages() {
        for (int page = 1; page <= 8192; page *= 2) {
            boolean fits = page <= 4096 && (192 - 65536) % page == 0;
            due(fits ? 0 : 13, fits ? -1 : ROW0 + 28, ROW0 + 28, 4, page);
            due(page <= 4096 ? 0 : 13, page <= 4096 ? -1 : NOTE_ROW + 28, NOTE_ROW + 28, 4, page);
        }
        // an ADDRESS with a rest: TEXT at 65544 with bytes at 200, by 16; and not at 192
        byte[] bytes = altered(good, ROW0 + 4, 4, 200, ROW0 + 8, 4, 65544, ROW0 + 12, 4, 65544, 24, 4, 65544, ROW1 + 4, 4, 211, ROW1 + 28, 4, 1);
        System.arraycopy(good, 192, bytes, 200, 8);
        System.arraycopy(good, 208, bytes, 211, 3);
        dueOf("rests of 8", bytes, true, 0, -1);
        dueOf("rest 8 and rest 0", altered(bytes, ROW0 + 4, 4, 192), false, 13, ROW0 + 28);
        dueOf("rest 8 and rest 12", altered(bytes, ROW0 + 4, 4, 196), false, 13, ROW0 + 28);
        byte[] byFour = altered(bytes, ROW0 + 4, 4, 196, ROW0 + 28, 4, 4);
        System.arraycopy(good, 192, byFour, 196, 8);
        dueOf("by 4 they are the same", byFour, true, 0, -1);
        dueOf("rest 1", altered(bytes, ROW0 + 4, 4, 201), false, 13, ROW0 + 28);
        byte[] restFour = altered(good, ROW0 + 4, 4, 196, ROW0 + 8, 4, 65540, ROW0 + 12, 4, 65540, 24, 4, 65540);
        System.arraycopy(good, 192, restFour, 196, 8);
        dueOf("rests of 4", restFour, true, 0, -1);
        dueOf("rest 4 and rest 12", altered(restFour, ROW0 + 4, 4, 188), false, 13, ROW0 + 28);
        // a NOTE begins at a multiple of 4
        byte[] longer = Arrays.copyOf(good, good.length + 4);
        System.arraycopy(good, NOTE, longer, NOTE + 4, 32);
        for (int at = NOTE; at <= NOTE + 4; at++) {
            boolean may = at % 4 == 0;
            dueOf("a NOTE at " + at, altered(longer, NOTE_ROW + 4, 4, at), false, may ? at == NOTE ? 25 : 0 : 13, may ? at == NOTE ? NOTE + 4 : -1 : NOTE_ROW + 28);
        }
    }

    /** 12 and 19 with single bytes; what is empty meets nothing. */
    private static void meetings() {
        int[] free = {ROW1 + 28, 4, 1, ROW1 + 16, 4, 1, ROW1 + 20, 4, 1};
        int[][] rows = {{51, 12}, {52, 19}, {179, 19}, {180, 0}, {191, 0}, {192, 19}, {199, 19}, {200, 0}, {223, 0}, {231, 0}, {good.length, 12}};
        for (int[] row : rows) {
            int[] changes = Arrays.copyOf(free, free.length + 3);
            changes[9] = ROW1 + 4;
            changes[10] = 4;
            changes[11] = row[0];
            // the later row, DATA or the NOTE, meets CONST there
            boolean later = row[0] >= 224 && row[0] < good.length;
            summed(later ? 19 : row[1], later ? (row[0] < 232 ? ROW2 : NOTE_ROW) + 4 : row[1] == 0 ? -1 : ROW1 + 4, changes);
        }
        // without bytes it may be anywhere, up to the FILE's end
        for (int at : new int[] {0, 48, 51, 52, 53, 179, 192, 195, 224, 228, 240, good.length}) {
            summed(0, -1, ROW1 + 28, 4, 1, ROW1 + 16, 4, 0, ROW1 + 20, 4, 0, ROW1 + 4, 4, at);
        }
        due(12, ROW1 + 4, ROW1 + 28, 4, 1, ROW1 + 16, 4, 0, ROW1 + 20, 4, 0, ROW1 + 4, 4, good.length + 1);
        due(19, ROW2 + 4, ROW2 + 4, 4, 192);
        due(19, ROW2 + 4, ROW2 + 4, 4, 208);
        due(19, NOTE_ROW + 4, NOTE_ROW + 4, 4, 228);
        due(19, NOTE_ROW + 4, NOTE_ROW + 4, 4, 176);
        due(19, ROW0 + 4, ROW0 + 4, 4, 176);
        due(19, ROW0 + 4, ROW0 + 4, 4, 64);
        // 18 ahead of 19
        due(18, ROW2 + 20, ROW2 + 4, 4, 192, ROW2 + 20, 4, 7);
    }

    /** 14: a segment with the rights of one ahead; a second NOTE. */
    private static void rightsTwice() {
        due(14, ROW1 + 24, ROW1 + 24, 4, 5);
        due(14, ROW1 + 24, ROW1 + 24, 4, 6, ROW0 + 24, 4, 6);
        due(14, ROW2 + 24, ROW2 + 24, 4, 5);
        due(14, ROW2 + 24, ROW2 + 24, 4, 4, ROW2 + 20, 4, 8);
        due(14, NOTE_ROW + 24, ROW1, 4, 4, ROW1 + 8, 4, 0, ROW1 + 12, 4, 0, ROW1 + 20, 4, 0);
        // a NOTE and a CONST have both 4
        due(0, -1);
        summed(0, -1, ROW0 + 24, 4, 5);
    }

    /** 21 and 22: TEXT's bytes, and address 131,071. */
    private static void memories() {
        for (int n = 0; n < 8; n++) {
            boolean may = n > 0 && n % 2 == 0;
            due(may ? 25 : 21, may ? NOTE + 20 : 44, ROW0 + 16, 4, n, ROW0 + 20, 4, n);
        }
        // DATA has 108 bytes
        for (int at : new int[] {131072 - 108, 131072 - 107, 131072 - 106, 131071}) {
            boolean may = at + 108 <= 131072;
            summed(may ? 0 : 22, may ? -1 : ROW2 + 20, ROW2 + 8, 4, at, ROW2 + 12, 4, at, ROW2 + 28, 4, 1);
        }
        ChainHouse x = dueOf("DATA at memory's end", altered(good, ROW2 + 8, 4, 131072 - 108, ROW2 + 12, 4, 131072 - 108, ROW2 + 28, 4, 1), true, 0, -1);
        Check.due("the last byte", x.rights(131071), 3);
        for (int at : new int[] {131072 - 3, 131072 - 2, 131071}) {
            boolean may = at + 3 <= 131072;
            summed(may ? 0 : 22, may ? -1 : ROW1 + 20, ROW1 + 8, 4, at, ROW1 + 12, 4, at, ROW1 + 28, 4, 1);
        }
        for (int at : new int[] {131064, 131066, 131068}) {
            boolean may = at == 131064;
            summed(may ? 0 : 22, may ? -1 : ROW0 + 20, ROW0 + 8, 4, at, ROW0 + 12, 4, at, ROW0 + 28, 4, 1, 24, 4, at);
        }
        // an empty segment at the last address; address 0
        summed(0, -1, ROW1 + 8, 4, 131071, ROW1 + 12, 4, 131071, ROW1 + 28, 4, 1, ROW1 + 16, 4, 0, ROW1 + 20, 4, 0);
        summed(0, -1, ROW0 + 8, 4, 0, ROW0 + 12, 4, 0, 24, 4, 0);
        summed(0, -1, ROW2 + 8, 4, 0, ROW2 + 12, 4, 0);
        // the first of the segments
        due(22, ROW0 + 20, ROW0 + 8, 4, 131066, ROW0 + 12, 4, 131066, ROW0 + 28, 4, 1, ROW1 + 8, 4, 131071, ROW1 + 12, 4, 131071, ROW1 + 28, 4, 1);
        // 21 ahead of 22 ahead of 23
        due(21, 44, ROW0 + 16, 4, 7, ROW0 + 20, 4, 7, ROW1 + 8, 4, 131071, ROW1 + 12, 4, 131071, ROW1 + 28, 4, 1);
        due(22, ROW1 + 20, ROW2 + 8, 4, 65536, ROW2 + 12, 4, 65536, ROW1 + 8, 4, 131071, ROW1 + 12, 4, 131071, ROW1 + 28, 4, 1);
    }

    private static byte[] swapped(byte[] from, int a, int b) {
        byte[] bytes = from.clone();
        System.arraycopy(from, a, bytes, b, 32);
        System.arraycopy(from, b, bytes, a, 32);
        return bytes;
    }

    /** 23: the first pair that meets, and the one of both that stands behind in the TABLE. */
    private static void pairs() {
        int[] rows = {ROW0, ROW1, ROW2};
        int[][] orders = {{0, 1, 2}, {0, 2, 1}, {1, 0, 2}, {1, 2, 0}, {2, 0, 1}, {2, 1, 0}};
        for (int[] order : orders) {
            // where the row of segment k is now
            int[] at = new int[3];
            byte[] bytes = good.clone();
            for (int k = 0; k < 3; k++) {
                System.arraycopy(good, rows[order[k]], bytes, rows[k], 32);
                at[order[k]] = rows[k];
            }
            dueOf("rows in another order", bytes, false, 0, -1);
            // apart but for: 0 and 1, 0 and 2, 1 and 2, all three
            int[][] places = {{65536, 65536, 66560}, {65536, 66560, 65536}, {65536, 66560, 66560}, {65536, 65536, 65536}};
            int[][] meet = {{0, 1}, {0, 2}, {1, 2}, {0, 1}};
            for (int p = 0; p < 4; p++) {
                byte[] b = bytes.clone();
                for (int k = 0; k < 3; k++) {
                    Check.put(b, at[k] + 8, 4, places[p][k]);
                    Check.put(b, at[k] + 12, 4, places[p][k]);
                }
                dueOf("two that meet", b, false, 23, Math.max(at[meet[p][0]], at[meet[p][1]]) + 8);
            }
        }
        // by one byte: CONST (3) and TEXT (8), DATA (108)
        int[][] edges = {{65533, 0}, {65534, 23}, {65543, 23}, {65544, 0}, {65565, 0}, {65566, -23}, {65568 + 107, -23}, {65568 + 108, 0}};
        for (int[] e : edges) {
            int fault = Math.abs(e[1]);
            summed(fault, fault == 0 ? -1 : (e[1] < 0 ? ROW2 : ROW1) + 8, ROW1 + 8, 4, e[0], ROW1 + 12, 4, e[0], ROW1 + 28, 4, 1);
        }
        // without a byte of memory it meets nothing
        for (int at : new int[] {65536, 65540, 65568, 65600}) {
            summed(0, -1, ROW1 + 8, 4, at, ROW1 + 12, 4, at, ROW1 + 28, 4, 1, ROW1 + 16, 4, 0, ROW1 + 20, 4, 0);
        }
    }

    /** 24 and 25. */
    private static void noteNumbers() {
        for (int k = 0; k < 20; k++) {
            for (int bit = 0; bit < 8; bit++) {
                due(25, k < 12 ? NOTE + k / 4 * 4 : NOTE + k, NOTE + k, 1, good[NOTE + k] ^ 1 << bit);
            }
        }
        for (int k = 20; k < 24; k++) {
            for (int bit = 0; bit < 8; bit++) {
                due(25, NOTE + 20, NOTE + k, 1, good[NOTE + k] ^ 1 << bit);
            }
        }
        for (int n = 0; n < 28; n++) {
            due(25, NOTE_ROW + 16, NOTE_ROW + 16, 4, n);
        }
        // from 28 on the number behind the name's length is asked first
        for (int n = 28; n < 32; n++) {
            due(25, NOTE + 4, NOTE_ROW + 16, 4, n);
            due(25, NOTE_ROW + 16, NOTE_ROW + 16, 4, n, NOTE + 4, 4, n - 20);
            due(25, NOTE + 20, NOTE_ROW + 16, 4, n, NOTE + 4, 4, n - 20, NOTE + 20, 4, 5);
        }
        for (int n : new int[] {33, 36, 64}) {
            byte[] longer = Arrays.copyOf(good, NOTE + n);
            Check.put(longer, NOTE_ROW + 16, 4, n);
            dueOf("a NOTE of " + n, longer, false, 25, NOTE + 4);
            Check.put(longer, NOTE + 4, 4, n - 20);
            dueOf("a NOTE of " + n, longer, false, 25, NOTE_ROW + 16);
        }
        // in their order
        for (int k = 0; k < 20; k++) {
            due(25, k < 12 ? NOTE + k / 4 * 4 : NOTE + k, NOTE + k, 1, good[NOTE + k] + 1, NOTE + k + 1, 1, good[NOTE + k + 1] + 1, NOTE + 20, 1, 9);
        }
        due(24, 44, NOTE_ROW, 4, 0, 24, 4, 5);
        due(25, NOTE, NOTE, 4, 5, NOTE + 31, 1, 1);
        // what stands behind the NOTE in the FILE is not looked at
        byte[] longer = Arrays.copyOf(good, good.length + 9);
        Arrays.fill(longer, good.length, longer.length, (byte) 255);
        dueOf("bytes behind the NOTE", longer, false, 0, -1);
    }

    /** 26: each bit that has no offset in TEXT (8 bytes: 4 bits). */
    private static void markBits() {
        for (int bit = 4; bit < 32; bit++) {
            due(26, NOTE + 28 + bit / 8, NOTE + 28 + bit / 8, 1, number(NOTE + 28 + bit / 8, 1) | 1 << bit % 8);
        }
        due(26, NOTE + 29, NOTE + 29, 1, 1, NOTE + 30, 1, 1);
        due(26, NOTE + 28, NOTE + 28, 1, 16, NOTE + 30, 1, 1);
        due(26, NOTE + 31, NOTE + 31, 1, 128, 24, 4, 5);
        // TEXT of 16 and of 18 bytes: 8 and 9 bits
        for (int n : new int[] {14, 16, 18, 32, 34}) {
            String text = ".globl _start\n_start: nop\n.zero " + (n - 2);
            byte[] bytes = Check.file(() -> linked(text), -1);
            int note = Check.number(bytes, 84 + 4, 4);
            for (int bit = 1; bit < Check.number(bytes, 84 + 16, 4) * 8 - 28 * 8; bit++) {
                byte[] b = bytes.clone();
                b[note + 28 + bit / 8] |= (byte) (1 << bit % 8);
                boolean may = bit < n / 2;
                dueOf("mark " + bit + " of " + n / 2, b, true, may ? 0 : 26, may ? -1 : note + 28 + bit / 8);
            }
        }
    }

    /** 27: the MARK BYTE of the first MARK that is wrong. */
    private static void wrongMarks() {
        String text = ".globl _start\n_start: nop\n.option norvc" + "\nmul a0, a0, a1".repeat(20) + "\n.option rvc\nnop\n.half 3";
        byte[] bytes = Check.file(() -> linked(text), -1);
        // TEXT: a short one at 0, long ones at 2, 6, .. 78, a short one at 82, half of a long one at 84
        int note = Check.number(bytes, 84 + 4, 4);
        Check.due("TEXT", Check.number(bytes, 52 + 16, 4), 86);
        for (int mark = 0; mark < 43; mark++) {
            boolean there = (bytes[note + 28 + mark / 8] >> mark % 8 & 1) != 0;
            Check.due("mark " + mark, there, mark == 0 || mark < 41 && mark % 2 == 1 || mark == 41);
            if (!there) {
                // within a long word: that one's MARK is wrong, its upper half is taken as short or long
                byte[] b = bytes.clone();
                b[note + 28 + mark / 8] |= (byte) (1 << mark % 8);
                int wrong = mark == 42 ? 42 : mark - 1;
                dueOf("mark " + mark, b, true, 27, note + 28 + wrong / 8);
            }
        }
        // without the MARK ahead
        byte[] b = bytes.clone();
        b[note + 28 + 2] = 0;
        dueOf("no marks 16 to 23", b, true, 0, -1);
        // TEXT's first and last one
        b = bytes.clone();
        b[Check.number(bytes, 52 + 4, 4)] = 3;
        dueOf("the first one is long", b, true, 27, note + 28);
        b = bytes.clone();
        b[Check.number(bytes, 52 + 4, 4) + 82] = 3;
        dueOf("the one at 82 is long", b, true, 0, -1);
        b[note + 28 + 5] |= 4;
        dueOf("and 84 is marked", b, true, 27, note + 28 + 5);
        // 27 ahead of 28
        due(27, NOTE + 28, NOTE + 28, 1, 15, 24, 4, 1);
    }

    /** 28: the ENTRY is a MARK's address. */
    private static void entries() {
        int[] marked = {65536, 65538, 65542};
        for (int at = 65530; at < 65560; at++) {
            boolean may = at == marked[0] || at == marked[1] || at == marked[2];
            summed(may ? 0 : 28, may ? -1 : 24, 24, 4, at);
        }
        for (int at : new int[] {0, 1, -1, 0x80000000, 65536 + 4094, 65536 + 4096, 65536 + 4098, 65536 + 8192, 131072, 0x10010000, 0x80010000, 0x7fffffff, 65536 + 0x1000000}) {
            due(28, 24, 24, 4, at);
        }
        due(28, 24, 24, 4, 65540, NOTE + 24, 4, 0);
        // without a MARK there is none
        due(28, 24, NOTE + 28, 1, 0);
    }

    /** 29 and 30. */
    private static void sums() {
        for (int bit = 0; bit < 32; bit++) {
            due(29, NOTE + 24, NOTE + 24, 4, number(NOTE + 24, 4) ^ 1 << bit);
        }
        // each byte that the SUM is of
        for (int k = 0; k < 8; k++) {
            if (k != 0 && k != 2 && k != 6) {
                due(29, NOTE + 24, 192 + k, 1, good[192 + k] ^ 64);
            }
            due(29, NOTE + 24, 224 + k, 1, good[224 + k] ^ 64);
        }
        for (int k = 0; k < 3; k++) {
            due(29, NOTE + 24, 208 + k, 1, good[208 + k] ^ 1);
        }
        due(29, NOTE + 24, 24, 4, 65538);
        due(29, NOTE + 24, ROW2 + 20, 4, 109);
        due(29, NOTE + 24, ROW1 + 8, 4, 65556, ROW1 + 12, 4, 65556, ROW1 + 28, 4, 4);
        due(29, NOTE + 24, NOTE + 28, 1, 3);
        // and of the bytes between none
        due(0, -1, 180, 4, -1, 200, 4, -1, 211, 4, -1);
        due(30, 36, 36, 4, 0);
        due(29, NOTE + 24, 36, 4, 0, NOTE + 24, 4, 0);
        summed(30, 36, NOTE + 28, 1, 2, 24, 4, 65538);
        summed(0, -1, NOTE + 28, 1, 2, 24, 4, 65538, 36, 4, 0);
        summed(0, -1, NOTE + 28, 1, 10, 24, 4, 65538);
        summed(30, 36, NOTE + 28, 1, 10, 24, 4, 65538, 36, 4, 0);
    }

    /** 31: behind all others. */
    private static void odd() {
        int[] moved = {ROW0 + 8, 4, 65537, ROW0 + 12, 4, 65537, ROW0 + 28, 4, 1, 24, 4, 65537};
        summed(31, 24, moved);
        int[] unsummed = Arrays.copyOf(moved, 15);
        unsummed[12] = 36;
        unsummed[13] = 4;
        unsummed[14] = 0;
        summed(30, 36, unsummed);
        due(29, NOTE + 24, moved);
        summed(28, 24, ROW0 + 8, 4, 65537, ROW0 + 12, 4, 65537, ROW0 + 28, 4, 1);
    }

    /** 17: segments of 4096 bytes; the last MARK, at offset 4094. */
    private static void great() {
        ChainHouse x = new ChainHouse();
        Check.assemble(x, 0, ".globl _start\n_start: j f\n.zero 2044\n.data\n.zero 2048\n.rodata\n.zero 2048");
        Check.assemble(x, 1, ".zero 2046\n.globl f\nf: nop\n.data\n.zero 2047\n.byte 7\n.rodata\n.zero 2047\n.byte 9");
        Check.linkAndLoad(x, 3, true);
        for (int k = 0; k < 3; k++) {
            int row = 52 + 32 * k;
            Check.due("bytes", Check.number(x, -1, row + 16, 4), 4096);
            Check.put(x, -1, row + 16, 4, 4097);
            Check.put(x, -1, row + 20, 4, 4097);
            Check.due("4097 bytes", x.load(), 17);
            Check.due("place", x.place(), row + 16);
            Check.put(x, -1, row + 16, 4, 4096);
            Check.due("4096 bytes", x.load(), k == 2 ? 29 : 18);
            Check.put(x, -1, row + 20, 4, 4096);
            Check.due("4096 bytes", x.load(), 0);
        }
        Check.due("the last byte of CONST", x.peek(65536 + 8191), 9);
        Check.due("the last byte of DATA", x.peek(65536 + 12287), 7);
        Check.due("rights", x.rights(65536 + 4094), 13);
        Check.due("rights", x.rights(65536 + 4095), 5);
        Check.due("rights", x.rights(65536 + 4096), 1);
        Check.due("rights", x.rights(65536 + 8192), 3);
        Check.due("run", x.run(1), 1);
        Check.due("no WILD jump", x.state(0), 0);
        Check.due("PC", x.get(32), 65536 + 4094);
        Check.due("run", x.run(1), 1);
        Check.due("PC", x.get(32), 65536 + 4096);
        Check.due("step", x.step(), 1);
        // a NOTE may have more than 4096 bytes as far as 17 goes: it meets what is ahead
        int row = 148;
        int begin = Check.number(x, -1, row + 4, 4);
        int bytes = Check.number(x, -1, row + 16, 4);
        Check.put(x, -1, row + 4, 4, Check.number(x, -1, 52 + 4, 4));
        Check.put(x, -1, row + 16, 4, 4097);
        Check.due("a NOTE of 4097 bytes", x.load(), 19);
        Check.due("place", x.place(), row + 4);
        Check.put(x, -1, row + 4, 4, begin);
        Check.put(x, -1, row + 16, 4, bytes);
        // the ENTRY there, and a long word there
        int note = Check.number(x, -1, 148 + 4, 4);
        Check.due("NOTE's bytes", Check.number(x, -1, 148 + 16, 4), 28 + 256);
        Check.put(x, -1, 24, 4, 65536 + 4094);
        Check.due("load", x.load(), 29);
        Check.put(x, -1, 24, 4, 65536 + 4096);
        Check.due("load", x.load(), 28);
        Check.put(x, -1, 24, 4, 65536);
        int text = Check.number(x, -1, 52 + 4, 4);
        x.spoil(-1, text + 4094, 3);
        Check.due("load", x.load(), 27);
        Check.due("place", x.place(), note + 28 + 255);
        x.spoil(-1, note + 28 + 255, 0);
        Check.due("load", x.load(), 29);
    }

    /** WRITING: how many bytes the FILE has, by those of the segments. */
    private static void written() {
        for (int n = 2; n <= 160; n += 2) {
            ChainHouse x = Check.good(".globl _start\n_start: nop\n.zero " + (n - 2));
            Check.linkAndLoad(x, 1, true);
            int begin = 52 + 64;
            int text = begin + (16 - begin % 16) % 16;
            int note = text + n + (4 - (text + n) % 4) % 4;
            Check.due("where TEXT begins", Check.number(x, -1, 52 + 4, 4), text);
            Check.due("where the NOTE begins", Check.number(x, -1, 84 + 4, 4), note);
            int marks = (n + 15) / 16;
            Check.due("bytes of the FILE", x.size(-1), note + 28 + (marks + 3) / 4 * 4);
            Check.due("its NOTE's", Check.number(x, -1, 84 + 16, 4), 28 + (marks + 3) / 4 * 4);
            Check.due("what is behind the name", Check.number(x, -1, note + 4, 4), 8 + (marks + 3) / 4 * 4);
            Check.due("half of TEXT's bytes", Check.number(x, -1, note + 20, 4), n / 2);
        }
        // MORE alone makes DATA
        for (int more = 0; more < 3; more++) {
            ChainHouse x = Check.good(".globl _start\n_start: nop\n.bss\n.zero " + more);
            Check.linkAndLoad(x, 1, true);
            Check.due("rows", Check.number(x, -1, 44, 2), more == 0 ? 2 : 3);
            Check.due("register 3", x.get(3), more == 0 ? 0 : 65552 + 2048);
            Check.due("rights", x.rights(65552), more == 0 ? 0 : 3);
            Check.due("rights behind", x.rights(65552 + more), 0);
        }
        // CONST alone, DATA alone
        for (int k = 0; k < 2; k++) {
            ChainHouse x = Check.good(".globl _start\n_start: nop\n" + (k == 0 ? ".rodata" : ".data") + "\n.byte 1");
            Check.linkAndLoad(x, 1, true);
            Check.due("rows", Check.number(x, -1, 44, 2), 3);
            Check.due("RIGHTS", Check.number(x, -1, 84 + 24, 4), k == 0 ? 4 : 6);
            Check.due("ADDRESS", Check.number(x, -1, 84 + 8, 4), 65552);
            Check.due("rights", x.rights(65552), k == 0 ? 1 : 3);
            Check.due("register 3", x.get(3), k == 0 ? 0 : 65552 + 2048);
        }
    }

    private static void loaded() {
        ChainHouse x = dueOf("the image", good, false, 0, -1);
        int[] rights = {13, 5, 13, 5, 5, 5, 13, 5, 0};
        for (int k = 0; k < rights.length; k++) {
            Check.due("rights", x.rights(65536 + k), rights[k]);
        }
        Check.due("rights", x.rights(65535), 0);
        Check.due("rights", x.rights(65551), 0);
        Check.due("rights", x.rights(65552), 1);
        Check.due("rights", x.rights(65554), 1);
        Check.due("rights", x.rights(65555), 0);
        Check.due("rights", x.rights(65567), 0);
        Check.due("rights", x.rights(65568), 3);
        Check.due("rights", x.rights(65568 + 107), 3);
        Check.due("rights", x.rights(65568 + 108), 0);
        for (int at : new int[] {-1, 131072, 2147483647, -2147483648}) {
            Check.due("rights", x.rights(at), 0);
            Check.due("peek", x.peek(at), -1);
        }
        for (int k = 0; k < 8; k++) {
            Check.due("TEXT", x.peek(65536 + k), good[192 + k] & 255);
            Check.due("DATA", x.peek(65568 + k), good[224 + k] & 255);
            Check.due("MORE", x.peek(65576 + k), 0);
        }
        for (int k = 0; k < 3; k++) {
            Check.due("CONST", x.peek(65552 + k), good[208 + k] & 255);
        }
        for (int r = -1; r < 34; r++) {
            Check.due("register " + r, x.get(r), r == 2 ? 131056 : r == 3 ? 65568 + 2048 : r == 32 ? 65536 : 0);
        }
    }

    /** A load makes a new machine of whatever was there; another image leaves nothing of the one ahead. */
    private static void again() {
        ChainHouse x = new ChainHouse();
        Check.assemble(x, 0, ".globl _start\n_start: li a7, 10\nli a0, 77\necall\n.zero 100\n.data\n.zero 4\n.globl d\nd: .word 0x11223344\n.bss\n.zero 500");
        Check.assemble(x, 1, ".half 1\n.globl _start\n_start: c.ebreak\n.data\n.byte 9");
        Check.linkAndLoad(x, 1, true);
        int d = Check.where(x, "d");
        x.set(5, 5);
        x.input(8, -1L);
        x.halt(65536, true);
        x.run(10);
        Check.due("VALUE", x.state(2), 77);
        Check.due("peek", x.peek(d), 0x44);
        // another image, smaller, that does not begin with a START
        Check.linkAndLoad(x, 2, true);
        for (int k = 0; k < 9; k++) {
            Check.due("state " + k, x.state(k), 0);
        }
        for (int k = 65536; k < 65536 + 300; k += 3) {
            boolean text = k < 65540;
            Check.due("memory", x.peek(k), text ? x.byteAt(-1, Check.number(x, -1, 52 + 4, 4) + k - 65536) : k == 65552 ? 9 : 0);
            Check.due("rights", x.rights(k) & 7, text ? 5 : k == 65552 ? 3 : 0);
            k += text ? -2 : 0;
        }
        Check.due("no mark at the beginning", x.rights(65536), 5);
        Check.due("a mark at the ENTRY", x.rights(65538), 13);
        for (int r = 1; r < 32; r++) {
            Check.due("register " + r, x.get(r), r == 2 ? 131056 : r == 3 ? 65552 + 2048 : 0);
        }
        Check.due("PC", x.get(32), 65538);
        Check.due("step", x.step(), 6);
        Check.due("CULPRIT", x.state(1), 65538);
        Check.due("load", x.load(), 0);
        Check.due("STATE", x.state(0), 0);
        Check.due("CULPRIT", x.state(1), 0);
        // what was taken of INPUT
        ChainHouse z = linked(".globl _start\n_start: li a7, 2\necall\necall");
        z.input(3, 0x0102030000000000L);
        z.run(3);
        Check.due("left", z.state(6), 1);
        Check.due("load", z.load(), 0);
        Check.due("none left", z.state(6), 0);
        z.run(3);
        Check.due("GET of nothing", z.get(10), -1);
        Check.due("load", z.load(), 0);
        z.input(2, 0x0708000000000000L);
        Check.due("left", z.state(6), 2);
        z.run(2);
        Check.due("GET", z.get(10), 7);
        // memory's first and last bytes
        for (int at : new int[] {0, 4, 104856, 104860, 131064}) {
            z = Check.withFile(-1, altered(good, ROW2 + 28, 4, 1, ROW2 + 8, 4, at, ROW2 + 12, 4, at, ROW2 + 20, 4, 8));
            Check.fixSum(z);
            Check.due("load", z.load(), 0);
            Check.due("a byte", z.peek(at), 5);
            Check.due("a byte", z.peek(at + 4), 6);
            Check.put(z, -1, ROW2, 4, 0);
            Check.fixSum(z);
            Check.due("load", z.load(), 0);
            for (int k = 0; k < 8; k++) {
                Check.due("memory is 0", z.peek(at + k), 0);
            }
        }
        // memory that was stored to, far up
        ChainHouse y = new ChainHouse();
        Check.assemble(y, 0, ".globl _start\n_start: sb a1, 0(a0)\nj _start\n.bss\n.zero 4096\n.comm c, 4096, 1\n.comm e, 4096, 1");
        Check.linkAndLoad(y, 1, true);
        y.set(11, 5);
        int end = 65552 + 3 * 4096 - 1;
        y.set(10, end);
        y.run(2);
        Check.due("stored", y.peek(end), 5);
        Check.due("load", y.load(), 0);
        Check.due("memory is 0", y.peek(end), 0);
        Check.due("no OUTPUT", y.state(5), 0);
    }

    /** With a FAULT the machine stays; the PLACE is that of the latest load. */
    private static void stays() {
        ChainHouse x = new ChainHouse();
        Check.due("place", x.place(), -1);
        Check.setFile(x, -1, good);
        Check.due("load", x.load(), 0);
        Check.due("place", x.place(), -1);
        x.step();
        x.halt(65540, true);
        x.input(3, -1L);
        x.step();
        x.set(7, 70);
        x.step();
        x.spoil(-1, NOTE + 24, 1 + x.byteAt(-1, NOTE + 24));
        Check.due("load", x.load(), 29);
        Check.due("place", x.place(), NOTE + 24);
        int[] want = {0, 0, 0, 3, 3, 0, 3, 1, 1};
        for (int k = 0; k < 9; k++) {
            Check.due("state " + k, x.state(k), want[k]);
        }
        Check.due("register", x.get(7), 70);
        Check.due("PC", x.get(32), 65544);
        Check.due("back", x.back(5), 1);
        Check.due("PC", x.get(32), 65542);
        // memory stays, of an IMAGE whose last numbers alone are at fault
        x.spoil(-1, 224, 99);
        x.spoil(-1, 194, 99);
        x.spoil(-1, 208, 99);
        Check.put(x, -1, ROW2 + 8, 4, 65600);
        Check.put(x, -1, ROW2 + 12, 4, 65600);
        Check.due("load", x.load(), 29);
        Check.due("a byte of DATA", x.peek(65568), 5);
        Check.due("a byte of TEXT", x.peek(65538), good[194] & 255);
        Check.due("a byte of CONST", x.peek(65552), 1);
        Check.due("no byte elsewhere", x.peek(65600), 0);
        Check.due("rights", x.rights(65568), 3);
        Check.due("rights", x.rights(65600 + 100), 0);
        Check.due("INPUT", x.state(6), 3);
        Check.due("HALTS", x.state(8), 1);
        x.cut(-1, 0);
        Check.due("load", x.load(), 1);
        Check.due("place", x.place(), 0);
        Check.due("register", x.get(7), 70);
        Check.due("rights", x.rights(65536), 13);
        Check.setFile(x, -1, good);
        Check.due("register", x.get(7), 70);
        Check.due("place", x.place(), 0);
        Check.due("load", x.load(), 0);
        Check.due("place", x.place(), -1);
        Check.due("register", x.get(7), 0);
        Check.due("HALTS", x.state(8), 0);
    }
}
