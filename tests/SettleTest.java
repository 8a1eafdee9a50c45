import java.util.ArrayList;
import java.util.List;
import java.util.Random;

/** Section 4: random parts and pieces, laid out and SETTLED by a plain model of the section, must lie where link() puts them. */
public final class SettleTest {
    private static final int PLAIN = 0;
    private static final int CALL = 1;
    private static final int UPPER = 2;
    private static final int NEAR = 3;
    private static final int FILL = 4;

    /** A piece: bytes it has at first and now, what it aims at. */
    private static final class Piece {
        int sort;
        int first;
        int size;
        String label;
        long constant;
        boolean two;
        boolean fixed;
        int at;
        int origin;

        Piece(int sort, int size) {
            this.sort = sort;
            this.first = size;
            this.size = size;
        }
    }

    private static final class Part {
        int output;
        int alignment = 1;
        int begin;
        int end;
        int bytes;
        List<Piece> pieces = new ArrayList<>();

        void add(Piece p) {
            p.origin = bytes;
            bytes += p.first;
            pieces.add(p);
        }
    }

    private static final class Label {
        String name;
        Part part;
        int offset;
        int value;
    }

    private final List<Part> parts = new ArrayList<>();
    private final List<Label> labels = new ArrayList<>();
    private final StringBuilder[] texts = {new StringBuilder(), new StringBuilder(), new StringBuilder()};
    private int gp;

    public static void main(String[] args) {
        int[] seen = new int[8];
        for (int seed = 0; seed < 6000; seed++) {
            new SettleTest().run(new Random(seed), seed, seen);
        }
        Check.due("some had FIXED pieces", seen[0] > 100, true);
        Check.due("some had more than one", seen[1] > 20, true);
        Check.due("some had a SHORT FILL", seen[2] > 20, true);
        Check.due("most were linked", seen[3] > 4000, true);
        Check.end();
    }

    private void label(Part part, StringBuilder text, String name) {
        Label l = new Label();
        l.name = name;
        l.part = part;
        l.offset = part.bytes;
        labels.add(l);
        text.append(".globl ").append(name).append("\n").append(name).append(":");
    }

    private static int around(Random r, int... places) {
        return places[r.nextInt(places.length)] + 2 * (r.nextInt(17) - 8) + (r.nextInt(6) == 0 ? 1 : 0);
    }

    /** An aim: the name of a label and a constant with which it is near an edge, or anywhere. */
    private String aim(Random r, Piece p, int units) {
        boolean data = p.sort != CALL && r.nextInt(2) == 0;
        p.label = data ? "d" + r.nextInt(units) : "g" + r.nextInt(3 * units);
        int base = 65536;
        int c;
        if (p.sort == CALL) {
            int[] edges = {0, 2046, -2048, 1048574, -1048576, 0};
            c = r.nextInt(3) == 0 ? 0 : around(r, edges);
        } else if (p.sort == UPPER && r.nextInt(3) == 0) {
            c = around(r, 129024 - base, 2048 - base, -2048 - base, 126976 - base);
        } else if (data) {
            c = r.nextInt(3) == 0 ? r.nextInt(64) : around(r, 4096, 0, -base + 2048, -base - 2048);
        } else {
            c = around(r, -base + 2048, -base - 2048, 4096, 4096 + 64, 0);
        }
        p.constant = c;
        return p.label + (c < 0 ? " - " + -(long) c : " + " + c);
    }

    /** A unit's text, and its parts as the model has them. */
    private void unit(Random r, int u, int units) {
        StringBuilder s = texts[u];
        Part[] four = new Part[4];
        for (int k = 0; k < 4; k++) {
            four[k] = new Part();
            four[k].output = k;
            parts.add(four[k]);
        }
        Part text = four[0];
        text.alignment = 4;
        boolean shorts = r.nextInt(4) != 0;
        List<Piece> pieces = new ArrayList<>();
        s.append(shorts ? "" : ".option norvc\n");
        if (u == 0) {
            s.append(".globl _start\n_start: fence\n");
            text.add(new Piece(PLAIN, 4));
        }
        boolean two = false;
        int items = 2 + r.nextInt(7);
        int given = 0;
        for (int k = 0; k < items; k++) {
            if (given < 3 && (r.nextInt(3) == 0 || items - k <= 3 - given)) {
                label(text, s, "g" + (3 * u + given));
                given++;
            }
            int what = r.nextInt(10);
            if (what < 2) {
                Piece p = new Piece(CALL, 8);
                s.append(r.nextBoolean() ? "call " : "tail ").append(aim(r, p, units)).append("\n");
                pieces.add(p);
                text.add(p);
            } else if (what < 6) {
                Piece p = new Piece(NEAR, 4);
                s.append("la a0, ").append(aim(r, p, units)).append("\n");
                text.add(p);
                text.add(new Piece(PLAIN, 4));
            } else if (what < 7) {
                Piece p = new Piece(UPPER, 4);
                String[] registers = {"a0", "t6", "sp", "zero", "ra"};
                String register = registers[r.nextInt(5)];
                s.append("lui ").append(register).append(", %hi(").append(aim(r, p, units)).append(")\n");
                p.two = !register.equals("sp") && !register.equals("zero");
                pieces.add(p);
                text.add(p);
            } else if (what < 8) {
                int n = 1 + r.nextInt(5);
                int bytes = (1 << n) - (shorts ? 2 : 4);
                s.append(".align ").append(n).append("\n");
                text.alignment = Math.max(text.alignment, 1 << n);
                if (bytes > 0) {
                    text.add(new Piece(FILL, bytes));
                }
            } else if (what < 9) {
                s.append("nop\n");
                two = two || shorts;
                text.add(new Piece(PLAIN, shorts ? 2 : 4));
            } else {
                int n = 2 * r.nextInt(30);
                s.append(".zero ").append(n).append("\n");
                text.add(new Piece(PLAIN, n));
            }
        }
        while (given < 3) {
            label(text, s, "g" + (3 * u + given));
            given++;
        }
        s.append("\n");
        for (Piece p : pieces) {
            p.two = two && (p.sort == CALL || p.two);
        }
        for (int k = 1; k < 4; k++) {
            int n = r.nextInt(3) == 0 ? 0 : r.nextInt(40);
            int power = r.nextInt(4) == 0 ? r.nextInt(6) : 0;
            s.append(k == 1 ? ".rodata\n" : k == 2 ? ".data\n" : ".bss\n");
            if (power > 0) {
                s.append(".align ").append(power).append("\n");
                four[k].alignment = 1 << power;
            }
            s.append(".zero ").append(n).append("\n");
            four[k].add(new Piece(PLAIN, n));
            if (k == 2) {
                label(four[k], s, "d" + u);
                s.append(".zero 2\n");
                four[k].add(new Piece(PLAIN, 2));
            }
        }
    }

    private static int up(int at, int multiple) {
        return (at + multiple - 1) / multiple * multiple;
    }

    private static int lack(Piece p) {
        int power = 1;
        while (power <= p.first) {
            power *= 2;
        }
        return up(p.at, power) - p.at;
    }

    /** All places by the sizes as they are. */
    private void places() {
        int at = 65536;
        int[] alignments = {16, 16, 16, 1};
        for (int o = 0; o < 4; o++) {
            at = up(at, alignments[o]);
            if (o == 2) {
                gp = at + 2048;
            }
            for (Part part : parts) {
                if (part.output == o) {
                    at = up(at, part.alignment);
                    part.begin = at;
                    for (Piece p : part.pieces) {
                        p.at = at;
                        if (p.sort == FILL) {
                            p.size = Math.min(p.first, lack(p));
                        }
                        at += p.size;
                    }
                    part.end = at;
                }
            }
        }
        for (Label l : labels) {
            l.value = l.part.end;
            for (Piece p : l.part.pieces) {
                if (p.first > 0 && p.origin == l.offset) {
                    l.value = p.at;
                }
            }
        }
    }

    private int least(Piece p) {
        long aim = 0;
        for (Label l : labels) {
            if (l.name.equals(p.label)) {
                aim = l.value + p.constant;
            }
        }
        long d = aim - p.at;
        if (p.sort == CALL) {
            return d % 2 != 0 ? 8 : p.two && d >= -2048 && d <= 2046 ? 2 : d >= -1048576 && d <= 1048574 ? 4 : 8;
        }
        if (aim >= -2048 && aim <= 2047 || aim - gp >= -2048 && aim - gp <= 2047) {
            return 0;
        }
        long upper = Math.floorDiv(aim + 2048, 4096L);
        return p.sort == UPPER && p.two && upper >= 1 && upper <= 31 ? 2 : 4;
    }

    private List<Piece> flexible() {
        List<Piece> all = new ArrayList<>();
        for (Part part : parts) {
            for (Piece p : part.pieces) {
                if (p.sort == CALL || p.sort == UPPER || p.sort == NEAR) {
                    all.add(p);
                }
            }
        }
        return all;
    }

    private void shrink() {
        boolean changed = true;
        while (changed) {
            places();
            changed = false;
            List<Piece> all = flexible();
            int[] sizes = new int[all.size()];
            for (int k = 0; k < sizes.length; k++) {
                sizes[k] = least(all.get(k));
            }
            for (int k = 0; k < sizes.length; k++) {
                Piece p = all.get(k);
                if (!p.fixed && sizes[k] < p.size) {
                    p.size = sizes[k];
                    changed = true;
                }
            }
        }
    }

    private void settle() {
        shrink();
        while (true) {
            List<Piece> bad = new ArrayList<>();
            for (Piece p : flexible()) {
                if (p.size < least(p)) {
                    bad.add(p);
                }
            }
            if (bad.isEmpty()) {
                return;
            }
            for (Piece p : bad) {
                p.size = p.first;
                p.fixed = true;
            }
            shrink();
        }
    }

    private void run(Random r, int seed, int[] seen) {
        int units = 1 + r.nextInt(3);
        for (int u = 0; u < units; u++) {
            unit(r, u, units);
        }
        ChainHouse x = new ChainHouse();
        for (int u = 0; u < units; u++) {
            int n = Check.assemble(x, u, texts[u].toString());
            Check.due("seed " + seed + ": unit " + u + " is assembled (" + x.fault(0) + " at " + x.fault(1) + ")", n > 0, true);
        }
        boolean shrinks = r.nextInt(8) != 0;
        int got = Check.link(x, (1 << units) - 1, shrinks);
        if (shrinks) {
            settle();
        } else {
            places();
        }
        boolean shortFill = false;
        for (Part part : parts) {
            for (Piece p : part.pieces) {
                shortFill = shortFill || p.sort == FILL && lack(p) > p.first;
            }
        }
        int fixed = 0;
        int saved = 0;
        for (Piece p : flexible()) {
            fixed += p.fixed ? 1 : 0;
            saved += p.first - p.size;
        }
        seen[0] += fixed > 0 ? 1 : 0;
        seen[1] += fixed > 1 ? 1 : 0;
        seen[2] += shortFill ? 1 : 0;
        if (shortFill) {
            Check.due("seed " + seed + ": link", got, Check.STATE);
            Check.due("seed " + seed + ": a FILL is SHORT", x.linked(0), 8);
            return;
        }
        Check.due("seed " + seed + ": linked(0)", x.linked(0), 0);
        seen[3]++;
        Check.due("seed " + seed + ": FIXED", x.linked(3), fixed);
        Check.due("seed " + seed + ": saved", x.linked(4), saved);
        for (Label l : labels) {
            Check.due("seed " + seed + ": where " + l.name, Check.where(x, l.name), l.value);
        }
    }
}
