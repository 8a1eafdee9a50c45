import java.util.ArrayList;
import java.util.List;
import java.util.Random;

/** Section 4: random parts and pieces, laid out and SETTLED by a plain model of the section, must lie where link() puts them. */
public final class SettleTest {
    /** A name and where it is. */
    private static final class Named {
        String name;
        LayoutModel.Label label;
    }

    private final LayoutModel model = new LayoutModel();
    private final List<Named> labels = new ArrayList<>();
    /** What pieces aim at, by names: set when all names are there. */
    private final List<Object[]> aims = new ArrayList<>();
    private final StringBuilder[] texts = {new StringBuilder(), new StringBuilder(), new StringBuilder()};

    public static void main(String[] args) {
        int[] seen = new int[8];
        for (int seed = 0; seed < 6000; seed++) {
            new SettleTest().run(new Random(seed), seed, seen);
        }
        Check.due("some had FIXED pieces", seen[0] > 100, true);
        Check.due("some had more than one", seen[1] > 20, true);
        Check.due("some had a SHORT FILL", seen[2] > 20, true);
        Check.due("most were linked", seen[3] > 4000, true);
        Check.end();
    }

    private void label(LayoutModel.Part part, StringBuilder text, String name) {
        Named l = new Named();
        l.name = name;
        l.label = new LayoutModel.Label(part, part.bytes);
        labels.add(l);
        text.append(".globl ").append(name).append("\n").append(name).append(":");
    }

    private static int around(Random r, int... places) {
        return places[r.nextInt(places.length)] + 2 * (r.nextInt(17) - 8) + (r.nextInt(6) == 0 ? 1 : 0);
    }

    /** An aim: the name of a label and a constant with which it is near an edge, or anywhere. */
    private String aim(Random r, LayoutModel.Piece p, int units) {
        boolean data = p.sort != LayoutModel.CALL && r.nextInt(2) == 0;
        String name = data ? "d" + r.nextInt(units) : "g" + r.nextInt(3 * units);
        aims.add(new Object[] {p, name});
        int base = 65536;
        int c;
        if (p.sort == LayoutModel.CALL) {
            int[] edges = {0, 2046, -2048, 1048574, -1048576, 0};
            c = r.nextInt(3) == 0 ? 0 : around(r, edges);
        } else if (p.sort == LayoutModel.UPPER && r.nextInt(3) == 0) {
            c = around(r, 129024 - base, 2048 - base, -2048 - base, 126976 - base);
        } else if (data) {
            c = r.nextInt(3) == 0 ? r.nextInt(64) : around(r, 4096, 0, -base + 2048, -base - 2048);
        } else {
            c = around(r, -base + 2048, -base - 2048, 4096, 4096 + 64, 0);
        }
        p.constant = c;
        return name + (c < 0 ? " - " + -(long) c : " + " + c);
    }

    /** A unit's text, and its parts as the model has them. */
    private void unit(Random r, int u, int units) {
        StringBuilder s = texts[u];
        LayoutModel.Part[] four = new LayoutModel.Part[4];
        for (int k = 0; k < 4; k++) {
            four[k] = new LayoutModel.Part();
            four[k].output = k;
            model.parts.add(four[k]);
        }
        LayoutModel.Part text = four[0];
        text.alignment = 4;
        boolean shorts = r.nextInt(4) != 0;
        List<LayoutModel.Piece> pieces = new ArrayList<>();
        s.append(shorts ? "" : ".option norvc\n");
        if (u == 0) {
            s.append(".globl _start\n_start: fence\n");
            text.add(new LayoutModel.Piece(LayoutModel.PLAIN, 4));
        }
        boolean two = false;
        int items = 2 + r.nextInt(7);
        int given = 0;
        for (int k = 0; k < items; k++) {
            if (given < 3 && (r.nextInt(3) == 0 || items - k <= 3 - given)) {
                label(text, s, "g" + (3 * u + given));
                given++;
            }
            int what = r.nextInt(10);
            if (what < 2) {
                LayoutModel.Piece p = new LayoutModel.Piece(LayoutModel.CALL, 8);
                s.append(r.nextBoolean() ? "call " : "tail ").append(aim(r, p, units)).append("\n");
                pieces.add(p);
                text.add(p);
            } else if (what < 6) {
                LayoutModel.Piece p = new LayoutModel.Piece(LayoutModel.NEAR, 4);
                s.append("la a0, ").append(aim(r, p, units)).append("\n");
                text.add(p);
                text.add(new LayoutModel.Piece(LayoutModel.PLAIN, 4));
            } else if (what < 7) {
                LayoutModel.Piece p = new LayoutModel.Piece(LayoutModel.UPPER, 4);
                String[] registers = {"a0", "t6", "sp", "zero", "ra"};
                String register = registers[r.nextInt(5)];
                s.append("lui ").append(register).append(", %hi(").append(aim(r, p, units)).append(")\n");
                p.two = !register.equals("sp") && !register.equals("zero");
                pieces.add(p);
                text.add(p);
            } else if (what < 8) {
                int n = 1 + r.nextInt(5);
                int bytes = (1 << n) - (shorts ? 2 : 4);
                s.append(".align ").append(n).append("\n");
                text.alignment = Math.max(text.alignment, 1 << n);
                if (bytes > 0) {
                    text.add(new LayoutModel.Piece(LayoutModel.FILL, bytes));
                }
            } else if (what < 9) {
                s.append("nop\n");
                two = two || shorts;
                text.add(new LayoutModel.Piece(LayoutModel.PLAIN, shorts ? 2 : 4));
            } else {
                int n = 2 * r.nextInt(30);
                s.append(".zero ").append(n).append("\n");
                text.add(new LayoutModel.Piece(LayoutModel.PLAIN, n));
            }
        }
        while (given < 3) {
            label(text, s, "g" + (3 * u + given));
            given++;
        }
        s.append("\n");
        for (LayoutModel.Piece p : pieces) {
            p.two = two && (p.sort == LayoutModel.CALL || p.two);
        }
        for (int k = 1; k < 4; k++) {
            int n = r.nextInt(3) == 0 ? 0 : r.nextInt(40);
            int power = r.nextInt(4) == 0 ? r.nextInt(6) : 0;
            s.append(k == 1 ? ".rodata\n" : k == 2 ? ".data\n" : ".bss\n");
            if (power > 0) {
                s.append(".align ").append(power).append("\n");
                four[k].alignment = 1 << power;
            }
            s.append(".zero ").append(n).append("\n");
            four[k].add(new LayoutModel.Piece(LayoutModel.PLAIN, n));
            if (k == 2) {
                label(four[k], s, "d" + u);
                s.append(".zero 2\n");
                four[k].add(new LayoutModel.Piece(LayoutModel.PLAIN, 2));
            }
        }
    }

    private void run(Random r, int seed, int[] seen) {
        int units = 1 + r.nextInt(3);
        for (int u = 0; u < units; u++) {
            unit(r, u, units);
        }
        ChainHouse x = new ChainHouse();
        for (int u = 0; u < units; u++) {
            int n = Check.assemble(x, u, texts[u].toString());
            Check.due("seed " + seed + ": unit " + u + " is assembled (" + x.fault(0) + " at " + x.fault(1) + ")", n > 0, true);
        }
        for (Object[] aim : aims) {
            for (Named l : labels) {
                if (l.name.equals(aim[1])) {
                    ((LayoutModel.Piece) aim[0]).label = l.label;
                }
            }
        }
        boolean shrinks = r.nextInt(8) != 0;
        int got = Check.link(x, (1 << units) - 1, shrinks);
        if (shrinks) {
            model.settle();
        } else {
            model.places();
        }
        boolean shortFill = false;
        for (LayoutModel.Part part : model.parts) {
            for (LayoutModel.Piece p : part.pieces) {
                shortFill = shortFill || p.sort == LayoutModel.FILL && LayoutModel.lack(p) > p.first;
            }
        }
        int fixed = model.fixed();
        int saved = model.saved();
        seen[0] += fixed > 0 ? 1 : 0;
        seen[1] += fixed > 1 ? 1 : 0;
        seen[2] += shortFill ? 1 : 0;
        if (shortFill) {
            Check.due("seed " + seed + ": link", got, Check.STATE);
            Check.due("seed " + seed + ": a FILL is SHORT", x.linked(0), 8);
            return;
        }
        Check.due("seed " + seed + ": linked(0)", x.linked(0), 0);
        seen[3]++;
        Check.due("seed " + seed + ": FIXED", x.linked(3), fixed);
        Check.due("seed " + seed + ": saved", x.linked(4), saved);
        for (Named l : labels) {
            Check.due("seed " + seed + ": where " + l.name, Check.where(x, l.name), l.label.part.where(l.label.offset));
        }
    }
}
