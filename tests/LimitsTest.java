import java.util.Random;

/** The limits of the sections 2, 3, 7 and 8: random long texts, and random links of many pieces, beside the plain models. */
public final class LimitsTest {
    public static void main(String[] args) {
        int[] texts = new int[24];
        for (int seed = 0; seed < 4000; seed++) {
            text(seed, texts);
        }
        for (int fault : new int[] {0, 7, 8, 18, 20}) {
            Check.due("FAULT " + fault + " was seen (" + texts[fault] + ")", texts[fault] > 30, true);
        }
        int[] links = new int[12];
        for (int seed = 0; seed < 4000; seed++) {
            link(seed, links);
        }
        Check.due("links without a FAULT were seen (" + links[0] + ")", links[0] > 300, true);
        Check.due("LINK FAULT 6 was seen (" + links[6] + ")", links[6] > 200, true);
        Check.end();
    }

    // ---- texts

    /** Seeds that follow one another begin nearly alike. */
    private static Random random(int seed) {
        return new Random(seed * 0x9e3779b97f4a7c15L);
    }

    private static String any(Random r, String... of) {
        return of[r.nextInt(of.length)];
    }

    /** An EXPRESSION of about so many ITEMS. */
    private static String items(Random r, int n) {
        StringBuilder s = new StringBuilder();
        int k = 0;
        while (k < n - 1) {
            int ahead = r.nextInt(6) == 0 ? r.nextInt(22) : r.nextInt(2);
            for (int j = 0; j < ahead && k < n - 1; j++) {
                s.append(r.nextInt(4) == 0 ? '~' : '-');
                k++;
            }
            s.append(r.nextInt(9)).append(any(r, "+", "-", "*", "&", "|", "^"));
            k += 2;
        }
        return s.append('1').toString();
    }

    private static String nested(Random r, int depth) {
        StringBuilder s = new StringBuilder();
        int open = 0;
        for (int k = 1; k < depth; k++) {
            if (r.nextInt(3) == 0) {
                s.append(r.nextInt(3) == 0 ? "-" : "1+(");
                open += s.charAt(s.length() - 1) == '(' ? 1 : 0;
            } else {
                s.append('(');
                open++;
            }
        }
        return s.append('1').append(")".repeat(open)).toString();
    }

    private static String line(Random r, int sort, int k) {
        switch (sort) {
            case 0: return "1:".repeat(1 + r.nextInt(6));
            case 1: return "n" + k + ":";
            case 2: return ".byte 1" + ",1".repeat(r.nextInt(60));
            case 3: return ".byte " + items(r, 56 + r.nextInt(6)) + "&1";
            case 4: return ".word " + items(r, 1 + r.nextInt(62));
            case 5: return ".word a" + ",a".repeat(r.nextInt(40));
            case 6: return ".byte a-b" + ",a-b".repeat(r.nextInt(20));
            case 7: return ".zero " + new int[] {1, 100, 500, 1000, 2000, 2048}[r.nextInt(6)];
            case 8: return any(r, ".text", ".rodata", ".data", ".bss");
            case 9: return "la a0, a";
            case 10: return any(r, "nop", "call a", "lw a0, .", "j 1f\n1:", ".align 6", ".asciz \"0123456789\"");
            case 11: return ".equ m" + k + "," + k;
            case 12: return ".globl v" + k;
            case 13: return ".byte " + nested(r, 18 + r.nextInt(5)) + "&1";
            case 14: return "a0 a0,(a0)";
            default: return any(r, "", "# x", " ");
        }
    }

    /** A text whose FILE has about 8192 bytes. */
    private static String big(Random r) {
        int words = 140 + r.nextInt(20);
        return ".zero " + (1100 + 2 * r.nextInt(200)) + "\n.rodata\n.zero 2048\n.data\n.zero " + (2048 - 4 * words) + "\n.word a" + ",a".repeat(words - 1) + "\n.globl long_name.of_it\n.text\n" + "1:j 1b\n".repeat(r.nextInt(20));
    }

    private static String text(Random r) {
        if (r.nextInt(8) == 0) {
            return big(r);
        }
        StringBuilder s = new StringBuilder(any(r, "", ".data\n", ".rodata\n", ".bss\n"));
        int[] sorts = {r.nextInt(16), r.nextInt(16), r.nextInt(14)};
        int room = r.nextInt(3) == 0 ? 3000 : 400 + r.nextInt(2600);
        for (int k = 0; k < 500; k++) {
            String line = line(r, sorts[r.nextInt(r.nextInt(8) == 0 ? 3 : 1 + r.nextInt(2))], k) + "\n";
            if (s.length() + line.length() > room) {
                break;
            }
            s.append(line);
        }
        return s.toString();
    }

    private static void text(int seed, int[] seen) {
        String text = text(random(seed));
        AssemblerModel model = new AssemblerModel(text);
        int fault = 0;
        int place = -1;
        try {
            model.assemble();
        } catch (AssemblerModel.Fault e) {
            fault = e.number;
            place = e.place;
        }
        seen[fault]++;
        ChainHouse x = new ChainHouse();
        int size = Check.assemble(x, 0, text);
        String told = "text " + seed;
        Check.due(told + ": FAULT", x.fault(0), fault);
        Check.due(told + ": PLACE", x.fault(1), place);
        if (fault == 0 && size > 0) {
            byte[] file = model.file();
            Check.due(told + ": size", size, file.length);
            int step = size / 100 + 1;
            for (int at = seed % step; at < size; at += step) {
                Check.due(told + ": byte " + at, x.byteAt(0, at), file[at] & 255);
            }
            Check.due(told + ": check", x.check(0), 0);
        }
    }

    // ---- links

    /** A unit's text with about so many pieces, labels and commons. */
    private static String unit(Random r, int u, boolean many) {
        StringBuilder s = new StringBuilder(u == 0 ? ".globl _start\n_start: nop\n" : "");
        int labels = 0;
        int n = many ? 10 + r.nextInt(60) : r.nextInt(16);
        int kind = r.nextInt(4);
        for (int k = 0; k < n && s.length() < 1800; k++) {
            switch (kind == 3 ? r.nextInt(3) : kind) {
                case 0:
                    s.append(k % 2 == 0 && labels < 26 ? "" : ".byte 0,0\n").append("call ").append(any(r, "_start", "_start", "w", "c0")).append('\n');
                    break;
                case 1:
                    s.append("q").append(labels).append(": call q").append(labels).append('\n');
                    labels++;
                    break;
                default: s.append(any(r, ".align 2\n", "la a0, d\n", "lui a0, %hi(d)\n", "nop\n")); break;
            }
        }
        if (r.nextInt(3) > 0) {
            for (int k = r.nextInt(many ? 14 : 6); k > 0; k--) {
                s.append(".comm c").append(r.nextInt(12)).append(',').append(1 << r.nextInt(13)).append(',').append(1 << r.nextInt(7)).append('\n');
            }
        }
        if (r.nextInt(4) == 0) {
            s.append(any(r, ".rodata\n", ".data\n", ".text\n")).append(".zero ").append(new int[] {700, 1400, 2046, 1000}[r.nextInt(4)]).append('\n');
        }
        if (r.nextInt(4) == 0) {
            s.append(".bss\n.zero ").append(new int[] {4096, 4000, 17}[r.nextInt(3)]).append('\n');
        }
        s.append(".weak w\n.comm c0, 4, 4\n.weak d\n").append(u == 0 ? ".data\nd: .word 1\n" : "");
        return s.length() > 2990 ? s.substring(0, 2990) : s.toString();
    }

    private static void link(int seed, int[] seen) {
        Random r = random(seed);
        int n = 1 + r.nextInt(6);
        boolean many = r.nextInt(3) > 0;
        ChainHouse x = new ChainHouse();
        byte[][] files = new byte[6][0];
        int room = 480;
        int set = 0;
        for (int u = 0; u < n; u++) {
            String text = unit(r, u, many || r.nextInt(3) == 0);
            int calls = 2 * ((text.length() + 19) / 20) + 1;
            AssemblerModel model = new AssemblerModel(text);
            try {
                model.assemble();
            } catch (AssemblerModel.Fault e) {
                continue;
            }
            if (calls <= room) {
                room -= calls;
                files[u] = model.file();
                Check.due("link " + seed + ": assemble " + u, Check.assemble(x, u, text), files[u].length);
                set |= 1 << u;
            }
        }
        boolean shrinks = r.nextInt(4) > 0;
        if (set == 0) {
            return;
        }
        LinkerModel model = new LinkerModel(files, set, shrinks);
        seen[model.fault]++;
        int got = Check.link(x, set, shrinks);
        String told = "link " + seed + " of " + Integer.toBinaryString(set);
        int[] want = {model.fault, model.unit, model.number, model.fault == 0 ? model.fixed : 0, model.fault == 0 ? model.saved : 0};
        for (int k = 0; k < 5; k++) {
            Check.due(told + ": linked(" + k + ")", x.linked(k), want[k]);
        }
        if (model.fault == 0 && got > 0) {
            Check.due(told + ": size", got, model.file.length);
            int step = got / 20 + 1;
            for (int at = seed % step; at < got && x.size(-1) == got; at += step) {
                Check.due(told + ": byte " + at, x.byteAt(-1, at), model.file[at] & 255);
            }
            Check.due(told + ": load", x.load(), 0);
        }
    }
}
