import java.util.ArrayList;
import java.util.List;

/** A plain model of section 4, for tests: parts, pieces and labels, laid out and SETTLED. */
public final class LayoutModel {
    public static final int PLAIN = 0;
    public static final int CALL = 1;
    public static final int UPPER = 2;
    public static final int NEAR = 3;
    public static final int FILL = 4;

    /** A piece: bytes it has at first and now, what it aims at (null: nothing that has a VALUE). */
    public static final class Piece {
        public final int sort;
        public final int first;
        public int size;
        public Label label;
        public long constant;
        public boolean two;
        public boolean fixed;
        public int at;
        public int origin;

        public Piece(int sort, int size) {
            this.sort = sort;
            this.first = size;
            this.size = size;
        }
    }

    public static final class Part {
        public int output;
        public int alignment = 1;
        public int begin;
        public int end;
        public int bytes;
        public final List<Piece> pieces = new ArrayList<>();

        public void add(Piece p) {
            p.origin = bytes;
            bytes += p.first;
            pieces.add(p);
        }

        /** Where a place of the section is: in the piece that begins there, or has bytes ahead and behind; else the end. */
        public int where(int offset) {
            for (Piece p : pieces) {
                if (p.first > 0 && p.origin == offset) {
                    return p.at;
                }
                if (offset > p.origin && offset < p.origin + p.first) {
                    return p.sort == PLAIN ? p.at + offset - p.origin : p.at + p.size;
                }
            }
            return end;
        }
    }

    /** A LABEL at a place of a part. */
    public static final class Label {
        public final Part part;
        public final int offset;

        public Label(Part part, int offset) {
            this.part = part;
            this.offset = offset;
        }
    }

    public final List<Part> parts = new ArrayList<>();
    public final int[] begins = new int[4];
    public final int[] ends = new int[4];

    public static int up(int at, int multiple) {
        return (at + multiple - 1) / multiple * multiple;
    }

    /** How many bytes lack from a FILL's place on. */
    public static int lack(Piece p) {
        int power = 1;
        while (power <= p.first) {
            power *= 2;
        }
        return up(p.at, power) - p.at;
    }

    public int gp() {
        return begins[2] + 2048;
    }

    /** All places by the sizes as they are. */
    public void places() {
        int at = 65536;
        int[] alignments = {16, 16, 16, 1};
        for (int o = 0; o < 4; o++) {
            at = up(at, alignments[o]);
            begins[o] = at;
            for (Part part : parts) {
                if (part.output == o) {
                    at = up(at, part.alignment);
                    part.begin = at;
                    for (Piece p : part.pieces) {
                        p.at = at;
                        if (p.sort == FILL) {
                            p.size = Math.min(p.first, lack(p));
                        }
                        at += p.size;
                    }
                    part.end = at;
                }
            }
            ends[o] = at;
        }
    }

    private int least(Piece p) {
        if (p.label == null) {
            return p.first;
        }
        long aim = p.label.part.where(p.label.offset) + p.constant;
        long d = aim - p.at;
        if (p.sort == CALL) {
            return d % 2 != 0 ? 8 : p.two && d >= -2048 && d <= 2046 ? 2 : d >= -1048576 && d <= 1048574 ? 4 : 8;
        }
        if (aim >= -2048 && aim <= 2047 || aim - gp() >= -2048 && aim - gp() <= 2047) {
            return 0;
        }
        long upper = Math.floorDiv(aim + 2048, 4096L);
        return p.sort == UPPER && p.two && upper >= 1 && upper <= 31 ? 2 : 4;
    }

    public List<Piece> flexible() {
        List<Piece> all = new ArrayList<>();
        for (Part part : parts) {
            for (Piece p : part.pieces) {
                if (p.sort == CALL || p.sort == UPPER || p.sort == NEAR) {
                    all.add(p);
                }
            }
        }
        return all;
    }

    private void shrink() {
        boolean changed = true;
        while (changed) {
            places();
            changed = false;
            List<Piece> all = flexible();
            int[] sizes = new int[all.size()];
            for (int k = 0; k < sizes.length; k++) {
                sizes[k] = least(all.get(k));
            }
            for (int k = 0; k < sizes.length; k++) {
                Piece p = all.get(k);
                if (!p.fixed && sizes[k] < p.size) {
                    p.size = sizes[k];
                    changed = true;
                }
            }
        }
    }

    public void settle() {
        shrink();
        while (true) {
            List<Piece> bad = new ArrayList<>();
            for (Piece p : flexible()) {
                if (p.size < least(p)) {
                    bad.add(p);
                }
            }
            if (bad.isEmpty()) {
                return;
            }
            for (Piece p : bad) {
                p.size = p.first;
                p.fixed = true;
            }
            shrink();
        }
    }

    public int fixed() {
        int n = 0;
        for (Piece p : flexible()) {
            n += p.fixed ? 1 : 0;
        }
        return n;
    }

    public int saved() {
        int n = 0;
        for (Piece p : flexible()) {
            n += p.first - p.size;
        }
        return n;
    }
}
