import java.util.ArrayList;
import java.util.Arrays;
import java.util.List;
import java.util.Random;

/** Sections 3 and 5: files with a few numbers altered, read by plain readers (FilesModel), must have the same FAULTS and PLACES. */
public final class ReadingTest {
    private static byte[] f;
    private static int place;
    private static long rightSum;

    private static long u(long at, int width) {
        return new FilesModel(f).u(at, width);
    }

    private static int readObject() {
        FilesModel model = new FilesModel(f);
        int fault = model.readObject();
        place = model.place;
        return fault;
    }

    private static int readImage() {
        FilesModel model = new FilesModel(f);
        int fault = model.readImage();
        place = model.place;
        rightSum = model.rightSum;
        return fault;
    }

    public static void main(String[] args) {
        int[] seen = new int[40];
        objects(seen);
        for (int k = 0; k <= 34; k++) {
            Check.due("FAULT " + k + " of objects was seen", seen[k] > 0, true);
        }
        // 17 of images needs a FILE of more than 4096 bytes
        int[] images = new int[40];
        images(images);
        for (int k = 0; k <= 30; k++) {
            Check.due("FAULT " + k + " of images was seen", k == 20 || k == 17 || images[k] > 0, true);
        }
        Check.end();
    }

    private static final String[] OBJECTS = {
        "l: nop\nadd a0, a1, a2\ncall g\nla a0, c\n.align 3\n.word g\n.rodata\n.align 2\n.byte 7\nabcg: .word l, 5\n.data\n.word g, abcg\n.bss\n.zero 9\n.globl g\n.globl l2\nl2:\n.comm c, 12, 4\n.weak bcg\n.equ e, 9\n.equ w, 3\n.weak w",
        "nop\n.globl x\nx: nop\n.data\n.byte x - y, x - y\n.bss\n.zero 40\ny: z:",
        ""};

    /** Alterations of a file: places, what was there. */
    private static void alter(ChainHouse x, int k, Random r, int from, int width, long v, List<int[]> undo) {
        for (int j = 0; j < width; j++) {
            int at = from + j;
            if (at < f.length) {
                undo.add(new int[] {at, f[at]});
                f[at] = (byte) (v >> 8 * j);
                x.spoil(k, at, f[at]);
            }
        }
    }

    /** A number for a place: near what is there, or one that stands elsewhere, or any. */
    private static long some(Random r, long was) {
        switch (r.nextInt(9)) {
            case 0: return was + 1;
            case 1: return was - 1;
            case 2: return was + (1L << r.nextInt(32));
            case 3: return was ^ 1L << r.nextInt(32);
            case 4: return r.nextInt(20);
            case 5: return u(4 * r.nextInt(f.length / 4), 4);
            case 6: return f.length + r.nextInt(3) - 1;
            case 7: return new int[] {0, -1, 52, 64, 0x80000000, 0x7fffffff, 4096, 4097, 65521, 65522, 131072, 32768}[r.nextInt(12)];
            default: return was + 4 * (r.nextInt(9) - 4);
        }
    }

    private static void objects(int[] seen) {
        byte[][] good = new byte[OBJECTS.length][];
        for (int k = 0; k < OBJECTS.length; k++) {
            String text = OBJECTS[k];
            good[k] = Check.file(() -> Check.good(text), 0);
        }
        for (int seed = 0; seed < 9000; seed++) {
            Random r = new Random(seed);
            String text = OBJECTS[r.nextInt(OBJECTS.length)];
            int which = Arrays.asList(OBJECTS).indexOf(text);
            f = good[which].clone();
            ChainHouse x = new ChainHouse();
            Check.assemble(x, 0, text);
            int table = (int) u(32, 4);
            int entries = (int) u(48, 2);
            for (int turn = 0; turn < 10; turn++) {
                List<int[]> undo = new ArrayList<>();
                for (int n = 1 + r.nextInt(3); n > 0; n--) {
                    int at;
                    int width = 4;
                    switch (r.nextInt(8)) {
                        case 0: at = r.nextInt(52); width = 1; break;
                        case 1: at = 20 + 2 * r.nextInt(16); width = 2; break;
                        case 2: case 3: case 4: at = table + 4 * r.nextInt(10 * entries); break;
                        case 5: case 6:
                            int e = 1 + r.nextInt(entries - 1);
                            at = (int) u(table + 40 * e + 16, 4) + 4 * r.nextInt((int) Math.min(400, u(table + 40 * e + 20, 4)) / 4 + 1);
                            width = 1 << r.nextInt(3);
                            break;
                        default: at = r.nextInt(f.length); width = 1; break;
                    }
                    at = Math.max(0, Math.min(at, f.length - 4));
                    alter(x, 0, r, at, width, some(r, u(at, width)), undo);
                }
                int want = readObject();
                seen[want]++;
                String told = "object " + which + ", seed " + seed + ", turn " + turn;
                Check.due(told + ": check", x.check(0), want);
                Check.due(told + ": PLACE", x.object(5, 0, 0), place);
                for (int k = undo.size() - 1; k >= 0; k--) {
                    f[undo.get(k)[0]] = (byte) undo.get(k)[1];
                    x.spoil(0, undo.get(k)[0], undo.get(k)[1]);
                }
            }
            if (seed % 50 == 0) {
                int n = r.nextInt(f.length);
                x.cut(0, n);
                f = Arrays.copyOf(f, n);
                int want = readObject();
                seen[want]++;
                Check.due("a FILE of " + n, x.check(0), want);
                Check.due("its PLACE", x.object(5, 0, 0), place);
            }
        }
        // the names' entry is another one
        f = good[2].clone();
        ChainHouse x = new ChainHouse();
        Check.setFile(x, 0, f);
        int table = (int) u(32, 4);
        List<int[]> undo = new ArrayList<>();
        alter(x, 0, null, 48, 2, 7, undo);
        alter(x, 0, null, 50, 2, 6, undo);
        alter(x, 0, null, table + 40 * 6 + 16, 4, u(table + 40 * 7 + 16, 4), undo);
        alter(x, 0, null, table + 40 * 6 + 20, 4, u(table + 40 * 7 + 20, 4), undo);
        int want = readObject();
        seen[want]++;
        Check.due("without .shstrtab", x.check(0), want);
        Check.due("its PLACE", x.object(5, 0, 0), place);
    }

    private static final String[] IMAGES = {
        ".globl _start\n_start: nop\nmul a0, a0, a1\nnop\n.rodata\n.byte 1,2,3\n.data\n.word 5,6\n.bss\n.zero 100",
        ".globl _start\nnop\n_start: nop\nmul a0, a0, a1\n.half 1,1,1,1,1,1\nnop\n.option norvc\nmul a0, a0, a1\n.data\n.byte 1",
        ".option norvc\n.globl _start\n_start: ecall\nfence"};

    private static ChainHouse linked(String text) {
        ChainHouse x = new ChainHouse();
        Check.assemble(x, 0, text);
        Check.due("link", Check.link(x, 1, true) > 0, true);
        return x;
    }

    private static void images(int[] seen) {
        byte[][] files = new byte[IMAGES.length][];
        for (int k = 0; k < IMAGES.length; k++) {
            String text = IMAGES[k];
            files[k] = Check.file(() -> linked(text), -1);
        }
        for (int seed = 0; seed < 3000; seed++) {
            Random r = new Random(seed);
            int which = r.nextInt(IMAGES.length);
            f = files[which].clone();
            ChainHouse x = linked(IMAGES[which]);
            int rows = (int) u(44, 2);
            int note = (int) u(52 + 32 * (rows - 1) + 4, 4);
            for (int turn = 0; turn < 10; turn++) {
                List<int[]> undo = new ArrayList<>();
                for (int n = 1 + r.nextInt(3); n > 0; n--) {
                    int at;
                    int width = 4;
                    switch (r.nextInt(9)) {
                        case 0: at = r.nextInt(52); width = 1; break;
                        case 1: at = 20 + 2 * r.nextInt(16); width = 2; break;
                        case 2: case 3: case 4: at = 52 + 4 * r.nextInt(8 * rows); break;
                        case 5: at = note + r.nextInt(f.length - note); width = 1; break;
                        case 6: at = 24; break;
                        case 7:
                            // a segment elsewhere, both numbers and the last one
                            int row = 52 + 32 * r.nextInt(rows);
                            long to = u(52 + 32 * r.nextInt(rows) + 8, 4) + 16 * (r.nextInt(5) - 2);
                            alter(x, -1, r, row + 12, 4, to, undo);
                            alter(x, -1, r, row + 28, 4, 1, undo);
                            alter(x, -1, r, row + 8, 4, r.nextInt(4) == 0 ? 131072 - u(row + 20, 4) + r.nextInt(2) : to, undo);
                            alter(x, -1, r, row + 12, 4, u(row + 8, 4), undo);
                            continue;
                        default: at = r.nextInt(f.length); width = 1; break;
                    }
                    at = Math.max(0, Math.min(at, f.length - 4));
                    alter(x, -1, r, at, width, some(r, u(at, width)), undo);
                }
                int want = readImage();
                if (want == 29 && r.nextInt(4) != 0) {
                    // the right SUM: then what is asked behind it
                    alter(x, -1, r, place, 4, rightSum, undo);
                    want = readImage();
                }
                seen[want]++;
                String told = "image " + which + ", seed " + seed + ", turn " + turn;
                Check.due(told + ": load", x.load(), want);
                Check.due(told + ": PLACE", x.place(), place);
                for (int k = undo.size() - 1; k >= 0; k--) {
                    f[undo.get(k)[0]] = (byte) undo.get(k)[1];
                    x.spoil(-1, undo.get(k)[0], undo.get(k)[1]);
                }
            }
            if (seed % 20 == 0) {
                int n = r.nextInt(f.length + 1);
                x.cut(-1, n);
                f = Arrays.copyOf(f, n);
                int want = readImage();
                seen[want]++;
                Check.due("an IMAGE of " + n, x.load(), want);
                Check.due("its PLACE", x.place(), place);
            }
        }
    }
}
