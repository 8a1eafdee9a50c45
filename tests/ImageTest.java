import java.util.zip.CRC32;

/** Promises 17 and 18, and sections 5 and 9: how images are written, read, loaded, and what is at fault with them. */
public final class ImageTest {
    private static final String TEXT = ".globl _start\n_start: nop\nmul a0, a0, a1\nnop\n.rodata\n.byte 1,2,3\n.data\n.word 5,6\n.bss\n.zero 100";
    private static byte[] good;
    /** Where the rows of the TABLE begin, and the NOTE. */
    private static final int ROW0 = 52;
    private static final int ROW1 = 84;
    private static final int ROW2 = 116;
    private static final int NOTE_ROW = 148;
    private static int note;

    public static void main(String[] args) {
        calls();
        written();
        header();
        tableOfSegments();
        tableOfNote();
        memory();
        notes();
        marks();
        loaded();
        Check.end();
    }

    private static void calls() {
        ChainHouse x = new ChainHouse();
        Check.due("place", x.place(), -1);
        Check.due("load", x.load(), 1);
        Check.due("place", x.place(), 0);
        x.extend(-1, 3, -1L);
        Check.due("load", x.load(), 1);
        Check.due("place", x.place(), 3);
        Check.assemble(x, 0, TEXT);
        Check.linkAndLoad(x, 1, true);
        Check.due("place", x.place(), -1);
        x.step();
        x.spoil(-1, 0, 1);
        Check.due("load", x.load(), 2);
        Check.due("place", x.place(), 0);
        Check.due("the machine stays", x.state(3), 1);
        x.spoil(-1, 0, 127);
        Check.due("load", x.load(), 0);
        Check.due("the machine is a new one", x.state(3), 0);
    }

    private static int number(int at, int width) {
        int v = 0;
        for (int k = width - 1; k >= 0; k--) {
            v = v << 8 | good[at + k] & 255;
        }
        return v;
    }

    private static void written() {
        good = Check.file(() -> {
            ChainHouse x = Check.good(TEXT);
            Check.linkAndLoad(x, 1, true);
            return x;
        }, -1);
        int[][] head = {{16, 2, 2}, {18, 2, 243}, {20, 4, 1}, {24, 4, 65536}, {28, 4, 52}, {32, 4, 0}, {36, 4, 1}, {40, 2, 52}, {42, 2, 32}, {44, 2, 4}, {46, 2, 0}, {48, 4, 0}};
        for (int[] h : head) {
            Check.due("number at " + h[0], number(h[0], h[1]), h[2]);
        }
        int[][] rows = {{1, 192, 65536, 65536, 8, 8, 5, 16}, {1, 208, 65552, 65552, 3, 3, 4, 16}, {1, 224, 65568, 65568, 8, 108, 6, 16}, {4, 232, 0, 0, 32, 0, 4, 4}};
        for (int r = 0; r < 4; r++) {
            for (int k = 0; k < 8; k++) {
                Check.due("row " + r + ", number " + k, number(ROW0 + 32 * r + 4 * k, 4), rows[r][k]);
            }
        }
        note = 232;
        Check.due("bytes", good.length, 264);
        int[] words = {6, 12, 1, 'M' | 'a' << 8 | 'r' << 16 | 'k' << 24, 's', 4};
        for (int k = 0; k < 6; k++) {
            Check.due("NOTE at " + 4 * k, number(note + 4 * k, 4), words[k]);
        }
        Check.due("MARK BYTES", number(note + 28, 4), 1 | 1 << 1 | 1 << 3);
        CRC32 sum = new CRC32();
        int[] hashed = {24, 4, ROW0 + 8, 4, -1, 0, 192, 8, ROW1 + 8, 4, -1, 0, 208, 3, ROW2 + 8, 4, -1, 100, 224, 8, note + 28, 1};
        for (int k = 0; k < hashed.length; k += 2) {
            if (hashed[k] < 0) {
                sum.update(new byte[] {(byte) hashed[k + 1], 0, 0, 0}, 0, 4);
            } else {
                sum.update(good, hashed[k], hashed[k + 1]);
            }
        }
        Check.due("THE SUM", number(note + 24, 4), (int) sum.getValue());
        // the SUM and the NOTE of other lengths
        for (int n = 2; n <= 70; n += 2) {
            ChainHouse z = Check.good(".globl _start\n_start: nop\n.zero " + (n - 2));
            Check.linkAndLoad(z, 1, true);
            int at = Check.number(z, -1, Check.imageRow(z, 4, 4) + 4, 4);
            Check.due("bytes of the NOTE", Check.number(z, -1, Check.imageRow(z, 4, 4) + 16, 4), 28 + ((n + 15) / 16 + 3) / 4 * 4);
            int was = Check.number(z, -1, at + 24, 4);
            Check.fixSum(z);
            Check.due("the SUM", Check.number(z, -1, at + 24, 4), was);
        }
        // without a short mark, and without CONST and DATA
        ChainHouse y = Check.good(".globl _start\n_start: ecall");
        Check.linkAndLoad(y, 1, true);
        Check.due("flags", Check.number(y, -1, 36, 4), 0);
        Check.due("rows", Check.number(y, -1, 44, 2), 2);
        Check.due("bytes", y.size(-1), 52 + 64 + 12 + 4 + 32);
        Check.due("where TEXT begins", Check.number(y, -1, 52 + 4, 4), 128);
    }

    /** The good file with some numbers altered (place, width, value ..) has a fault at a place; with the right SUM if told. */
    private static void due(boolean fixed, int fault, int place, int... changes) {
        byte[] bytes = good.clone();
        StringBuilder told = new StringBuilder();
        for (int c = 0; c < changes.length; c += 3) {
            for (int k = 0; k < changes[c + 1]; k++) {
                bytes[changes[c] + k] = (byte) (changes[c + 2] >> 8 * k);
            }
            told.append(changes[c]).append(" is ").append(changes[c + 2]).append(", ");
        }
        dueOf(told.toString(), bytes, fixed, fault, place);
    }

    private static void due(int fault, int place, int... changes) {
        due(false, fault, place, changes);
    }

    private static ChainHouse dueOf(String told, byte[] bytes, boolean fixed, int fault, int place) {
        ChainHouse x = new ChainHouse();
        Check.setFile(x, -1, bytes);
        if (fixed) {
            Check.fixSum(x);
        }
        Check.due("load: " + told, x.load(), fault);
        Check.due("place: " + told, x.place(), place);
        return x;
    }

    private static void header() {
        for (int n : new int[] {0, 1, 51}) {
            dueOf("cut " + n, java.util.Arrays.copyOf(good, n), false, 1, n);
        }
        dueOf("cut 52", java.util.Arrays.copyOf(good, 52), false, 10, 28);
        dueOf("more bytes", java.util.Arrays.copyOf(good, good.length + 1), false, 0, -1);
        dueOf("one byte less", java.util.Arrays.copyOf(good, good.length - 1), false, 12, NOTE_ROW + 4);
        for (int k = 0; k < 16; k++) {
            due(k < 4 ? 2 : k < 7 ? k - 1 : 6, k, k, 1, good[k] + 1, 16, 1, 9);
        }
        due(7, 16, 16, 2, 1);
        due(8, 18, 18, 2, 244);
        int[][] nines = {{20, 4, 2}, {28, 4, 48}, {28, 4, 54}, {32, 4, 1}, {36, 4, 2}, {40, 2, 53}, {42, 2, 40}, {44, 2, 0}, {44, 2, 9}, {46, 2, 1}, {48, 2, 1}, {50, 2, 1}};
        for (int[] nine : nines) {
            due(9, nine[0], nine);
        }
        due(10, 28, 28, 4, 256);
        due(10, 28, 28, 4, -4);
        due(10, 28, 44, 2, 8);
    }

    private static void tableOfSegments() {
        due(11, ROW1, ROW1, 4, 2);
        due(11, ROW1, ROW1, 4, 3, ROW1 + 4, 4, -1);
        // what is 0 counts for nothing, the rest neither
        due(true, 0, -1, ROW1, 4, 0, ROW1 + 4, 4, -1, ROW1 + 8, 4, -1);
        due(12, ROW1 + 4, ROW1 + 4, 4, 51);
        due(12, ROW1 + 4, ROW1 + 4, 4, good.length - 2);
        due(12, ROW1 + 4, ROW1 + 4, 4, -1);
        due(12, ROW1 + 4, ROW1 + 4, 4, 51, ROW1 + 16, 4, 1);
        due(13, ROW1 + 28, ROW1 + 28, 4, 0);
        due(13, ROW1 + 28, ROW1 + 28, 4, 3);
        due(13, ROW1 + 28, ROW1 + 28, 4, 8192);
        due(13, ROW1 + 28, ROW1 + 28, 4, 4096);
        due(0, -1, ROW1 + 28, 4, 1);
        due(13, ROW1 + 28, ROW1 + 4, 4, 209);
        due(13, ROW1 + 28, ROW1 + 8, 4, 65553);
        due(14, ROW1 + 24, ROW1 + 24, 4, 7);
        due(14, ROW1 + 24, ROW1 + 24, 4, 5);
        due(14, ROW1 + 24, ROW1 + 24, 4, 0);
        due(15, ROW1 + 8, ROW1 + 8, 4, 131072);
        due(15, ROW1 + 8, ROW1 + 8, 4, -16);
        due(16, ROW1 + 12, ROW1 + 12, 4, 65568);
        due(16, ROW1 + 12, ROW1 + 8, 4, 65568);
        due(18, ROW1 + 20, ROW1 + 20, 4, 4);
        due(18, ROW1 + 20, ROW1 + 20, 4, 2);
        due(18, ROW0 + 20, ROW0 + 20, 4, 9);
        due(18, ROW2 + 20, ROW2 + 20, 4, 7);
        due(18, ROW2 + 20, ROW2 + 20, 4, 8 + 32769);
        due(29, note + 24, ROW2 + 20, 4, 8 + 32768);
        due(true, 0, -1, ROW2 + 20, 4, 8 + 32768);
        due(true, 0, -1, ROW2 + 20, 4, 8);
        // bytes of the TABLE, or of a row ahead
        due(19, ROW1 + 4, ROW1 + 4, 4, 176);
        due(19, ROW1 + 4, ROW1 + 4, 4, 192);
        due(19, ROW2 + 4, ROW2 + 4, 4, 208);
        due(true, 0, -1, ROW1, 4, 0, ROW2 + 4, 4, 208);
        due(true, 0, -1, ROW1 + 16, 4, 0, ROW1 + 20, 4, 0, ROW1 + 4, 4, 196, ROW1 + 28, 4, 1);
        due(true, 0, -1, ROW1 + 16, 4, 0, ROW1 + 20, 4, 0, ROW1 + 4, 4, 60, ROW1 + 28, 4, 4);
    }

    private static void put(byte[] bytes, int at, int v) {
        for (int k = 0; k < 4; k++) {
            bytes[at + k] = (byte) (v >> 8 * k);
        }
    }

    private static void tableOfNote() {
        due(12, NOTE_ROW + 4, NOTE_ROW + 16, 4, 36);
        due(13, NOTE_ROW + 28, NOTE_ROW + 28, 4, 5);
        due(0, -1, NOTE_ROW + 28, 4, 4096);
        byte[] longer = java.util.Arrays.copyOf(good, 300);
        put(longer, NOTE_ROW + 4, 234);
        dueOf("a NOTE at 234", longer, false, 13, NOTE_ROW + 28);
        due(14, NOTE_ROW + 24, NOTE_ROW + 24, 4, 5);
        due(14, NOTE_ROW + 24, ROW1, 4, 4, ROW1 + 8, 4, 0, ROW1 + 12, 4, 0, ROW1 + 20, 4, 0);
        due(15, NOTE_ROW + 8, NOTE_ROW + 8, 4, 1);
        due(16, NOTE_ROW + 12, NOTE_ROW + 12, 4, 1);
        due(18, NOTE_ROW + 20, NOTE_ROW + 20, 4, 32);
        due(19, NOTE_ROW + 4, NOTE_ROW + 4, 4, 228);
    }

    private static void memory() {
        due(21, 44, ROW0, 4, 0);
        due(21, 44, ROW0 + 16, 4, 0, ROW0 + 20, 4, 0);
        due(21, 44, ROW0 + 16, 4, 7, ROW0 + 20, 4, 7);
        due(22, ROW0 + 20, ROW0 + 8, 4, 131066, ROW0 + 12, 4, 131066, ROW0 + 28, 4, 1, ROW2 + 8, 4, 131056, ROW2 + 12, 4, 131056);
        due(28, 24, ROW0 + 8, 4, 131064, ROW0 + 12, 4, 131064, ROW0 + 28, 4, 1);
        due(22, ROW2 + 20, ROW2 + 8, 4, 131072 - 96, ROW2 + 12, 4, 131072 - 96);
        due(29, note + 24, ROW2 + 8, 4, 131072 - 112, ROW2 + 12, 4, 131072 - 112);
        due(23, ROW1 + 8, ROW1 + 8, 4, 65536, ROW1 + 12, 4, 65536);
        due(23, ROW2 + 8, ROW2 + 8, 4, 65520, ROW2 + 12, 4, 65520);
        due(23, ROW2 + 8, ROW1 + 8, 4, 65568 + 96, ROW1 + 12, 4, 65568 + 96);
        // without bytes of memory nothing is met
        due(true, 0, -1, ROW1 + 8, 4, 65568 + 16, ROW1 + 12, 4, 65568 + 16, ROW1 + 16, 4, 0, ROW1 + 20, 4, 0);
        due(29, note + 24, ROW1 + 8, 4, 65568 + 112, ROW1 + 12, 4, 65568 + 112);
        // the one that stands behind in the TABLE: TEXT and CONST are exchanged
        byte[] bytes = good.clone();
        System.arraycopy(good, ROW0, bytes, ROW1, 32);
        System.arraycopy(good, ROW1, bytes, ROW0, 32);
        dueOf("rows exchanged", bytes, false, 0, -1);
        put(bytes, ROW0 + 8, 65536);
        put(bytes, ROW0 + 12, 65536);
        dueOf("rows exchanged that meet", bytes, false, 23, ROW1 + 8);
        due(24, 44, NOTE_ROW, 4, 0);
        due(24, 44, 44, 2, 3);
    }

    private static void notes() {
        due(25, NOTE_ROW + 16, NOTE_ROW + 16, 4, 27);
        due(25, note, note, 4, 5, note + 4, 4, 1);
        due(25, note + 4, note + 4, 4, 13, note + 8, 4, 0);
        due(25, note + 8, note + 8, 4, 2, note + 12, 1, 0);
        for (int k = 12; k < 20; k++) {
            due(25, note + k, note + k, 1, 1, note + 20, 4, 0);
        }
        due(25, note + 20, note + 20, 4, 5);
        due(25, NOTE_ROW + 16, NOTE_ROW + 16, 4, 28, note + 4, 4, 8);
        byte[] longer = java.util.Arrays.copyOf(good, good.length + 4);
        put(longer, NOTE_ROW + 16, 36);
        put(longer, note + 4, 16);
        dueOf("a longer NOTE", longer, false, 25, NOTE_ROW + 16);
    }

    private static void marks() {
        // TEXT: nop at 0, mul at 2, nop at 6
        due(26, note + 28, note + 28, 1, 27);
        due(26, note + 29, note + 29, 1, 1);
        due(26, note + 31, note + 31, 1, 128, 24, 4, 0);
        due(27, note + 28, note + 28, 1, 1 | 2 | 4 | 8);
        due(27, note + 28, 192 + 6, 1, 3);
        due(28, 24, 24, 4, 65540);
        due(28, 24, 24, 4, 65537);
        due(28, 24, 24, 4, 65544);
        due(28, 24, 24, 4, 0);
        due(28, 24, 24, 4, 0x80010000);
        due(29, note + 24, note + 24, 4, 0);
        due(29, note + 24, 24, 4, 65538);
        due(true, 0, -1, 24, 4, 65538);
        due(29, note + 24, 192 + 8 + 8, 1, 9);
        due(30, 36, 36, 4, 0);
        due(true, 30, 36, note + 28, 1, 2, 24, 4, 65538);
        due(true, 0, -1, note + 28, 1, 2, 24, 4, 65538, 36, 4, 0);
        // a wrong mark in the second MARK BYTE, or the last one of 4096 bytes
        ChainHouse x = Check.good(".globl _start\n_start: nop\n.zero 20\nmul a0, a0, a1\nnop");
        Check.linkAndLoad(x, 1, true);
        int at = Check.number(x, -1, Check.imageRow(x, 4, 4) + 4, 4);
        Check.due("MARK BYTES", Check.number(x, -1, at + 28, 2), 1 | 1 << 11 | 1 << 13);
        x.spoil(-1, at + 29, 1 << 3 | 1 << 4);
        Check.due("load", x.load(), 27);
        Check.due("place", x.place(), at + 29);
        // an odd TEXT
        due(true, 31, 24, ROW0 + 8, 4, 65537, ROW0 + 12, 4, 65537, ROW0 + 28, 4, 1, 24, 4, 65537);
    }

    private static void loaded() {
        ChainHouse x = dueOf("the image", good, false, 0, -1);
        for (int k = 0; k < 8; k++) {
            Check.due("byte of TEXT", x.peek(65536 + k), good[192 + k] & 255);
        }
        int[] rights = {13, 5, 13, 5, 5, 5, 13, 5, 0};
        for (int k = 0; k < rights.length; k++) {
            Check.due("rights of TEXT", x.rights(65536 + k), rights[k]);
        }
        Check.due("rights of CONST", x.rights(65554), 1);
        Check.due("rights behind CONST", x.rights(65555), 0);
        Check.due("rights of DATA", x.rights(65568 + 107), 3);
        Check.due("rights behind DATA", x.rights(65568 + 108), 0);
        Check.due("rights beyond", x.rights(131072), 0);
        Check.due("rights beyond", x.rights(-1), 0);
        Check.due("peek", x.peek(65572), 6);
        Check.due("peek", x.peek(131072), -1);
        Check.due("peek", x.peek(-1), -1);
        for (int r = 0; r < 32; r++) {
            Check.due("register " + r, x.get(r), r == 2 ? 131056 : r == 3 ? 65568 + 2048 : 0);
        }
        Check.due("PC", x.get(32), 65536);
        for (int k = 0; k < 9; k++) {
            Check.due("state", x.state(k), 0);
        }
        // another load takes all away
        x.input(8, -1L);
        x.halt(65536, true);
        x.set(5, 7);
        x.step();
        Check.due("load", x.load(), 0);
        for (int k = 0; k < 9; k++) {
            Check.due("state", x.state(k), 0);
        }
        Check.due("register 5", x.get(5), 0);
        Check.due("no HALT", x.halt(65536, false), false);
    }
}
