import java.io.ByteArrayOutputStream;
import java.util.ArrayList;
import java.util.Arrays;
import java.util.Comparator;
import java.util.HashSet;
import java.util.LinkedHashMap;
import java.util.List;
import java.util.Map;
import java.util.Set;
import java.util.zip.CRC32;

/** A plain linker of section 8, for tests: from the UNITS' good FILES to the IMAGE's bytes, or a LINK FAULT. */
public final class LinkerModel {
    private static final String[] NAMES = {".text", ".rodata", ".data", ".bss"};

    public static final class Symbol {
        String name;
        int where;
        int value;
        int size;
        int bind;
        int type;
    }

    public static final class Relocation {
        int section;
        int place;
        int kind;
        int symbol;
        int addend;
        int number;
        LayoutModel.Piece own;

        int width() {
            switch (kind) {
                case 33: case 37: return 1;
                case 34: case 38: case 44: case 45: return 2;
                case 19: return 8;
                case 51: return 0;
                case 43: return addend;
                default: return 4;
            }
        }
    }

    public static final class Unit {
        final byte[][] bytes = new byte[3][];
        final int[] size = new int[4];
        final int[] alignment = {1, 1, 1, 1};
        final List<Integer> starts = new ArrayList<>();
        final List<Symbol> symbols = new ArrayList<>();
        final List<Relocation> relocations = new ArrayList<>();
        final LayoutModel.Part[] parts = new LayoutModel.Part[4];
        int index;

        boolean shorts() {
            for (int s : starts) {
                if ((bytes[0][s] & 3) != 3) {
                    return true;
                }
            }
            return false;
        }

        boolean eased(Relocation r) {
            for (Relocation q : relocations) {
                if (q.kind == 51 && q.place == r.place) {
                    return r.section == 0;
                }
            }
            return false;
        }

        /** What object() tells of the lists 0 to 4. */
        int told(int list, int k, int what) {
            int[] row = {};
            if (list == 0 && k >= 0 && k < 4) {
                row = new int[] {size[k], alignment[k]};
            } else if (list == 1 && k >= 0 && k < starts.size()) {
                row = new int[] {starts.get(k)};
            } else if (list == 2 && k >= 0 && k < symbols.size()) {
                Symbol s = symbols.get(k);
                row = new int[6 + s.name.length()];
                int[] first = {s.where, s.value, s.size, s.bind, s.type, s.name.length()};
                System.arraycopy(first, 0, row, 0, 6);
                for (int c = 0; c < s.name.length(); c++) {
                    row[6 + c] = s.name.charAt(c);
                }
            } else if (list == 3 && k >= 0 && k < relocations.size()) {
                Relocation r = relocations.get(k);
                row = new int[] {r.section, r.place, r.kind, r.symbol, r.addend};
            } else if (list == 4) {
                int n = 0;
                for (int s : starts) {
                    n += (bytes[0][s] & 3) != 3 ? 1 : 0;
                }
                row = new int[] {starts.size(), symbols.size(), relocations.size(), n};
            }
            return what >= 0 && what < row.length ? row[what] : -1;
        }

        int word(int at) {
            int v = 0;
            for (int k = 3; k >= 0; k--) {
                v = v << 8 | (at + k < bytes[0].length ? bytes[0][at + k] & 255 : 0);
            }
            return v;
        }
    }

    private static final class Global {
        Unit unit;
        Symbol symbol;
        Unit weakUnit;
        Symbol weak;
        int extent;
        int alignment;
        boolean needed;
        LayoutModel.Part part;
    }

    /** What ends the model's link. */
    private static final class Fault extends RuntimeException {
        private static final long serialVersionUID = 1;
        final int fault;
        final int unit;
        final int number;

        Fault(int fault, int unit, int number) {
            this.fault = fault;
            this.unit = unit;
            this.number = number;
        }
    }

    private final List<Unit> units = new ArrayList<>();
    private final Map<String, Global> globals = new LinkedHashMap<>();
    private final LayoutModel layout = new LayoutModel();
    private final Set<Object> labels = new HashSet<>();
    private final byte[][] image = new byte[3][];
    private int pieces;
    private boolean shrinks;
    /** The LINK FAULT, its UNIT and NUMBER; without one the IMAGE's bytes, and what linked() tells of pieces. */
    public int fault;
    public int unit = -1;
    public int number = -1;
    public byte[] file;
    public int fixed;
    public int saved;

    /** Links the UNITS of a set; a UNIT without a FILE has no bytes. */
    public LinkerModel(byte[][] files, int set, boolean shrinking) {
        shrinks = shrinking;
        try {
            for (int u = 0; u < files.length; u++) {
                if ((set >> u & 1) != 0) {
                    units.add(read(files[u], u));
                }
            }
            link();
            fixed = shrinks ? layout.fixed() : 0;
            saved = layout.saved();
        } catch (Fault e) {
            fault = e.fault;
            unit = e.unit;
            number = e.number;
        }
    }

    private static Unit read(byte[] file, int u) {
        if (file.length == 0) {
            throw new Fault(1, u, -1);
        }
        int bad = new FilesModel(file).readObject();
        if (bad != 0) {
            throw new Fault(2, u, bad);
        }
        Unit unit = parse(file);
        unit.index = u;
        return unit;
    }

    /** Whether a link without a FAULT has a GLOBAL of this name. */
    public boolean knows(String name) {
        return globals.containsKey(name);
    }

    public int where(String name) {
        return (int) spot(name);
    }

    // ---- reading a good FILE

    public static Unit parse(byte[] f) {
        Unit u = new Unit();
        int table = Check.number(f, 32, 4);
        int count = Check.number(f, 48, 2);
        int strings = Check.number(f, table + 40 * Check.number(f, 50, 2) + 16, 4);
        Map<String, int[]> parts = new LinkedHashMap<>();
        String[] names = new String[count];
        for (int e = 1; e < count; e++) {
            int row = table + 40 * e;
            names[e] = string(f, strings + Check.number(f, row, 4));
            parts.put(names[e], new int[] {Check.number(f, row + 16, 4), Check.number(f, row + 20, 4), Check.number(f, row + 32, 4)});
        }
        for (int s = 0; s < 4; s++) {
            int[] p = parts.getOrDefault(NAMES[s], new int[] {0, 0, 1});
            u.size[s] = p[1];
            u.alignment[s] = p[2];
            if (s < 3) {
                u.bytes[s] = Arrays.copyOfRange(f, p[0], p[0] + p[1]);
            }
        }
        int[] starts = parts.getOrDefault(".starts", new int[2]);
        for (int k = 0; k < starts[1]; k += 2) {
            u.starts.add(Check.number(f, starts[0] + k, 2));
        }
        int[] symtab = parts.get(".symtab");
        for (int k = 16; k < symtab[1]; k += 16) {
            int at = symtab[0] + k;
            Symbol s = new Symbol();
            s.name = string(f, parts.get(".strtab")[0] + Check.number(f, at, 4));
            s.value = Check.number(f, at + 4, 4);
            s.size = Check.number(f, at + 8, 4);
            s.bind = f[at + 12] >> 4;
            s.type = f[at + 12] & 15;
            int where = Check.number(f, at + 14, 2);
            s.where = where == 0 ? -1 : where == 65521 ? 4 : where == 65522 ? 5 : Arrays.asList(NAMES).indexOf(names[where]);
            u.symbols.add(s);
        }
        for (int s = 0; s < 3; s++) {
            int[] rela = parts.getOrDefault(".rela" + NAMES[s], new int[2]);
            for (int k = 0; k < rela[1]; k += 12) {
                Relocation r = new Relocation();
                r.section = s;
                r.place = Check.number(f, rela[0] + k, 4);
                r.kind = f[rela[0] + k + 4] & 255;
                r.symbol = Check.number(f, rela[0] + k + 5, 3) - 1;
                r.addend = Check.number(f, rela[0] + k + 8, 4);
                r.number = u.relocations.size();
                u.relocations.add(r);
            }
        }
        return u;
    }

    private static String string(byte[] f, int at) {
        StringBuilder s = new StringBuilder();
        for (int k = at; f[k] != 0; k++) {
            s.append((char) (f[k] & 255));
        }
        return s.toString();
    }

    // ---- names

    private void resolve() {
        for (Unit u : units) {
            for (int k = 0; k < u.symbols.size(); k++) {
                Symbol s = u.symbols.get(k);
                if (s.bind == 0) {
                    continue;
                }
                Global g = globals.computeIfAbsent(s.name, n -> new Global());
                boolean there = s.where >= 0 && s.where <= 4;
                g.needed = g.needed || s.bind == 1;
                if (s.bind == 1 && there) {
                    if (g.symbol != null) {
                        throw new Fault(3, u.index, k);
                    }
                    g.symbol = s;
                    g.unit = u;
                } else if (there && g.weak == null) {
                    g.weak = s;
                    g.weakUnit = u;
                } else if (s.where == 5) {
                    g.extent = Math.max(g.extent, s.size);
                    g.alignment = Math.max(g.alignment, s.value);
                }
            }
        }
        for (Global g : globals.values()) {
            if (g.symbol == null && g.extent == 0 && g.weak != null) {
                g.symbol = g.weak;
                g.unit = g.weakUnit;
            }
        }
        for (Unit u : units) {
            for (int k = 0; k < u.symbols.size(); k++) {
                Symbol s = u.symbols.get(k);
                if (s.bind == 1) {
                    Global g = globals.get(s.name);
                    boolean special = Arrays.asList("_gp", "_etext", "_edata", "_bss", "_end").contains(s.name);
                    if (g.symbol == null && g.extent == 0 && !special) {
                        throw new Fault(4, u.index, k);
                    }
                }
            }
        }
        Global start = globals.get("_start");
        if (start == null || start.symbol == null || start.symbol.where != 0) {
            throw new Fault(5, -1, -1);
        }
    }

    /** Where a global is, or its number. */
    private long spot(String name) {
        Global g = globals.get(name);
        if (g.symbol != null) {
            return spot(g.unit, g.symbol);
        }
        if (g.extent > 0) {
            return g.part.begin;
        }
        switch (name) {
            case "_gp": return layout.gp();
            case "_etext": return layout.ends[0];
            case "_edata": return layout.ends[2];
            case "_bss": return layout.begins[3];
            case "_end": return layout.ends[3];
            default: return 0;
        }
    }

    private static long spot(Unit u, Symbol s) {
        return s.where == 4 ? s.value : u.parts[s.where].where(s.value);
    }

    private long aim(Unit u, Relocation r) {
        Symbol s = u.symbols.get(r.symbol);
        return (s.bind == 0 ? spot(u, s) : spot(s.name)) + r.addend;
    }

    // ---- parts and pieces

    private void add(LayoutModel.Part part, LayoutModel.Piece p) {
        if (pieces == 256) {
            throw new Fault(6, -1, -1);
        }
        pieces++;
        part.add(p);
    }

    private LayoutModel.Part part(int output, int alignment) {
        if (layout.parts.size() == 32) {
            throw new Fault(6, -1, -1);
        }
        LayoutModel.Part p = new LayoutModel.Part();
        p.output = output;
        p.alignment = alignment;
        layout.parts.add(p);
        return p;
    }

    private void partsAndPieces() {
        // aims are told when all parts are there
        List<Object[]> aims = new ArrayList<>();
        for (Unit u : units) {
            for (int s = 0; s < 4; s++) {
                u.parts[s] = part(s, u.alignment[s]);
                if (s == 0) {
                    text(u, aims);
                } else {
                    add(u.parts[s], new LayoutModel.Piece(LayoutModel.PLAIN, u.size[s]));
                }
            }
        }
        for (Global g : globals.values()) {
            if (g.symbol == null && g.extent > 0) {
                g.part = part(3, g.alignment);
                add(g.part, new LayoutModel.Piece(LayoutModel.PLAIN, g.extent));
            }
        }
        for (Object[] aim : aims) {
            Unit u = (Unit) aim[0];
            LayoutModel.Piece p = (LayoutModel.Piece) aim[1];
            Symbol s = (Symbol) aim[2];
            Unit at = u;
            if (s.bind != 0) {
                Global g = globals.get(s.name);
                if (g.symbol == null) {
                    p.label = g.extent > 0 ? new LayoutModel.Label(g.part, 0) : null;
                    continue;
                }
                s = g.symbol;
                at = g.unit;
            }
            p.label = s.where < 4 ? new LayoutModel.Label(at.parts[s.where], s.value) : null;
        }
    }

    private void text(Unit u, List<Object[]> aims) {
        List<Relocation> may = new ArrayList<>();
        for (Relocation r : u.relocations) {
            boolean shrinking = (r.kind == 19 || r.kind == 23 || r.kind == 26) && u.eased(r);
            if (shrinking || r.kind == 43 && r.addend > 0) {
                may.add(r);
            }
        }
        may.sort(Comparator.comparingInt(r -> r.place));
        LayoutModel.Part part = u.parts[0];
        for (Relocation r : may) {
            if (r.place < part.bytes) {
                continue;
            }
            if (r.place > part.bytes) {
                add(part, new LayoutModel.Piece(LayoutModel.PLAIN, r.place - part.bytes));
            }
            LayoutModel.Piece p;
            if (r.kind == 43) {
                p = new LayoutModel.Piece(LayoutModel.FILL, r.addend);
            } else {
                int first = u.word(r.place);
                int second = r.kind == 19 ? u.word(r.place + 4) : first;
                boolean good = r.kind == 26 ? (first & 127) == 0x37 : (first & 127) == 0x17;
                if (!good || r.kind == 19 && (second & 0x707f) != 0x67) {
                    throw new Fault(7, u.index, r.number);
                }
                Symbol s = u.symbols.get(r.symbol);
                labels.add(s.bind == 0 ? s : globals.get(s.name));
                if (labels.size() > 64) {
                    throw new Fault(6, -1, -1);
                }
                p = new LayoutModel.Piece(r.kind == 19 ? LayoutModel.CALL : r.kind == 23 ? LayoutModel.NEAR : LayoutModel.UPPER, r.kind == 19 ? 8 : 4);
                int d = second >> 7 & 31;
                p.two = u.shorts() && (r.kind == 19 ? d <= 1 : d != 0 && d != 2);
                p.constant = r.addend;
                aims.add(new Object[] {u, p, s});
            }
            add(part, p);
            r.own = p;
        }
        if (part.bytes < u.size[0] || part.pieces.isEmpty()) {
            add(part, new LayoutModel.Piece(LayoutModel.PLAIN, u.size[0] - part.bytes));
        }
    }

    private void layOut() {
        if (shrinks) {
            layout.settle();
        } else {
            layout.places();
        }
        for (Unit u : units) {
            LayoutModel.Piece bad = null;
            for (LayoutModel.Piece p : u.parts[0].pieces) {
                if (bad == null && p.sort == LayoutModel.FILL && LayoutModel.lack(p) > p.first) {
                    bad = p;
                }
            }
            for (Relocation r : u.relocations) {
                if (bad != null && r.own == bad) {
                    throw new Fault(8, u.index, r.number);
                }
            }
        }
        for (int o = 0; o < 3; o++) {
            if (layout.ends[o] - layout.begins[o] > 4096) {
                throw new Fault(6, -1, -1);
            }
        }
        if (layout.ends[3] - layout.ends[2] > 32768) {
            throw new Fault(6, -1, -1);
        }
    }

    // ---- what relocations put in

    private int get(int section, int at, int width) {
        int v = 0;
        for (int k = width - 1; k >= 0; k--) {
            int j = at + k - layout.begins[section];
            v = v << 8 | (j < image[section].length ? image[section][j] & 255 : 0);
        }
        return v;
    }

    private void put(int section, int at, int width, long v) {
        for (int k = 0; k < width; k++) {
            image[section][at + k - layout.begins[section]] = (byte) (v >> 8 * k);
        }
    }

    private void copy() {
        for (int o = 0; o < 3; o++) {
            image[o] = new byte[layout.ends[o] - layout.begins[o]];
            for (Unit u : units) {
                for (LayoutModel.Piece p : u.parts[o].pieces) {
                    for (int k = 0; k < p.first && p.size == p.first && p.sort != LayoutModel.FILL; k++) {
                        put(o, p.at + k, 1, u.bytes[o][p.origin + k]);
                    }
                }
            }
        }
    }

    private static void demand(boolean good, int fault, Unit u, Relocation r) {
        if (!good) {
            throw new Fault(fault, u.index, r.number);
        }
    }

    private static boolean isInt(long v) {
        return v >= Integer.MIN_VALUE && v <= Integer.MAX_VALUE;
    }

    private static boolean low(long v) {
        return v >= -2048 && v <= 2047;
    }

    private static long bits(long v, int high, int low) {
        return v >> low & (1L << high - low + 1) - 1;
    }

    private static int branch(int w, long i) {
        return w & 0x01fff07f | (int) (bits(i, 12, 12) << 31 | bits(i, 10, 5) << 25 | bits(i, 4, 1) << 8 | bits(i, 11, 11) << 7);
    }

    private static int jump(int w, long i) {
        return w & 0xfff | (int) (bits(i, 20, 20) << 31 | bits(i, 10, 1) << 21 | bits(i, 11, 11) << 20 | bits(i, 19, 12) << 12);
    }

    private static int shortJump(int w, long i) {
        return w & 0xe003 | (int) (bits(i, 11, 11) << 12 | bits(i, 4, 4) << 11 | bits(i, 9, 8) << 9 | bits(i, 10, 10) << 8 | bits(i, 6, 6) << 7 | bits(i, 7, 7) << 6 | bits(i, 3, 1) << 3 | bits(i, 5, 5) << 2);
    }

    private static int shortBranch(int w, long i) {
        return w & 0xe383 | (int) (bits(i, 8, 8) << 12 | bits(i, 4, 3) << 10 | bits(i, 7, 6) << 5 | bits(i, 2, 1) << 3 | bits(i, 5, 5) << 2);
    }

    private static boolean fits(long i, long least, long greatest) {
        return i >= least && i <= greatest && i % 2 == 0;
    }

    private static int upper(long v) {
        return (int) bits(v + 2048, 31, 12) << 12;
    }

    private static boolean isOfI(int w) {
        int f3 = w >> 12 & 7;
        return (w & 0x707f) == 0x67 || (w & 127) == 0x13 && f3 != 1 && f3 != 5 || (w & 127) == 3 && f3 != 3 && f3 < 6;
    }

    private static boolean isStore(int w) {
        return (w & 127) == 0x23 && (w >> 12 & 7) < 3;
    }

    private static int withLow(int w, long i, boolean store) {
        return store ? w & 0x01fff07f | (int) (bits(i, 11, 5) << 25 | bits(i, 4, 0) << 7) : w & 0xfffff | (int) i << 20;
    }

    private void relocate(Unit u, Relocation r) {
        if (r.kind == 51 || r.kind == 43 && r.addend == 0) {
            return;
        }
        LayoutModel.Part part = u.parts[r.section];
        if (r.own == null) {
            boolean whole = false;
            for (LayoutModel.Piece p : part.pieces) {
                whole = whole || p.sort == LayoutModel.PLAIN && r.place >= p.origin && r.place + r.width() <= p.origin + p.first;
            }
            demand(whole, 7, u, r);
        }
        int at = part.where(r.place);
        int span = r.own == null ? r.width() : r.own.size;
        if (r.kind == 43) {
            for (int k = 0; k < span; k++) {
                int whole = span / 4 * 4;
                put(0, at + k, 1, k < whole ? k % 4 == 0 ? 0x13 : 0 : k == whole ? 1 : 0);
            }
            return;
        }
        if (r.kind == 24 || r.kind == 25) {
            nearLow(u, r, at);
            return;
        }
        long v = aim(u, r);
        int w = span >= 4 ? get(r.section, at, 4) : 0;
        switch (r.kind) {
            case 1: put(r.section, at, 4, v); break;
            case 33: case 34: case 35: put(r.section, at, span, get(r.section, at, span) + v); break;
            case 37: case 38: case 39: put(r.section, at, span, get(r.section, at, span) - v); break;
            case 16:
                demand((w & 127) == 0x63 && (w >> 12 & 7) != 2 && (w >> 12 & 7) != 3, 7, u, r);
                demand(fits(v - at, -4096, 4094), 8, u, r);
                put(0, at, 4, branch(w, v - at));
                break;
            case 17:
                demand((w & 127) == 0x6f, 7, u, r);
                demand(fits(v - at, -1048576, 1048574), 8, u, r);
                put(0, at, 4, jump(w, v - at));
                break;
            case 44: case 45:
                w = get(0, at, 2);
                int kind = w & 0xe003;
                demand(r.kind == 44 ? kind == 0xc001 || kind == 0xe001 : kind == 0x2001 || kind == 0xa001, 7, u, r);
                demand(r.kind == 44 ? fits(v - at, -256, 254) : fits(v - at, -2048, 2046), 8, u, r);
                put(0, at, 2, r.kind == 44 ? shortBranch(w, v - at) : shortJump(w, v - at));
                break;
            case 19: call(u, r, at, v - at, span); break;
            case 23: case 26: upperWord(u, r, at, r.kind == 26 ? v : v - at, span); break;
            default:
                boolean store = r.kind == 28;
                demand(store ? isStore(w) : isOfI(w), 7, u, r);
                if (shrinks && u.eased(r) && (low(v) || low(v - layout.gp()))) {
                    direct(at, w, v, store);
                } else {
                    put(0, at, 4, withLow(w, (int) v << 20 >> 20, store));
                }
                break;
        }
    }

    private void direct(int at, int w, long v, boolean store) {
        int a = low(v) ? 0 : 3;
        long i = low(v) ? v : v - layout.gp();
        put(0, at, 4, withLow(w & ~(31 << 15) | a << 15, i, store));
    }

    private void call(Unit u, Relocation r, int at, long d, int span) {
        int link = u.word(r.place + 4) >> 7 & 31;
        if (span == 8) {
            int first = get(0, at, 4);
            int second = get(0, at + 4, 4);
            demand((first & 127) == 0x17, 7, u, r);
            demand(isInt(d), 8, u, r);
            put(0, at, 4, first & 0xfff | upper(d));
            demand((second & 0x707f) == 0x67, 7, u, r);
            put(0, at + 4, 4, withLow(second, (int) d << 20 >> 20, false));
        } else {
            demand(span == 4 ? fits(d, -1048576, 1048574) : fits(d, -2048, 2046), 8, u, r);
            put(0, at, span, span == 4 ? jump(0x6f | link << 7, d) : shortJump(link == 1 ? 0x2001 : 0xa001, d));
        }
    }

    private void upperWord(Unit u, Relocation r, int at, long v, int span) {
        if (span == 4) {
            int w = get(0, at, 4);
            demand((w & 127) == (r.kind == 26 ? 0x37 : 0x17), 7, u, r);
            demand(isInt(v), 8, u, r);
            put(0, at, 4, w & 0xfff | upper(v));
        } else if (span == 2) {
            long i = v + 2048 >> 12;
            demand(i >= 1 && i <= 31, 8, u, r);
            put(0, at, 2, 0x6001 | (u.word(r.place) >> 7 & 31) << 7 | (int) i << 2);
        }
    }

    private void nearLow(Unit u, Relocation r, int at) {
        Symbol s = u.symbols.get(r.symbol);
        Unit home = u;
        if (s.bind != 0) {
            home = globals.get(s.name).unit;
            s = globals.get(s.name).symbol;
        }
        Relocation partner = null;
        for (Relocation q : u.relocations) {
            if (partner == null && s != null && home == u && s.where == 0 && q.kind == 23 && q.place == s.value) {
                partner = q;
            }
        }
        demand(partner != null && r.addend == 0, 7, u, r);
        int w = get(0, at, 4);
        boolean store = r.kind == 25;
        demand(store ? isStore(w) : isOfI(w), 7, u, r);
        long v = aim(u, partner);
        if (partner.own != null && partner.own.size == 0) {
            demand(low(v) || low(v - layout.gp()), 8, u, r);
            direct(at, w, v, store);
        } else {
            put(0, at, 4, withLow(w, (int) (v - u.parts[0].where(partner.place)) << 20 >> 20, store));
        }
    }

    // ---- the IMAGE

    private void finish() {
        int n = image[0].length;
        if (n == 0 || n % 2 != 0) {
            throw new Fault(9, -1, -1);
        }
        boolean[] marks = new boolean[n / 2 + 1];
        for (Unit u : units) {
            for (int s : u.starts) {
                int at = u.parts[0].where(s) - layout.begins[0];
                if (at % 2 == 0 && at < n) {
                    marks[at / 2] = true;
                }
            }
        }
        for (int k = 0; k < n / 2; k++) {
            if (marks[k] && (image[0][2 * k] & 3) == 3 && (2 * k + 4 > n || marks[k + 1])) {
                throw new Fault(9, -1, -4);
            }
        }
        long entry = spot("_start");
        long offset = entry - layout.begins[0];
        if (offset < 0 || offset >= n || offset % 2 != 0 || !marks[(int) offset / 2]) {
            throw new Fault(9, -1, -5);
        }
        write(marks, entry);
    }

    private static void number(ByteArrayOutputStream out, long v, int width) {
        for (int k = 0; k < width; k++) {
            out.write((int) (v >> 8 * k) & 255);
        }
    }

    private static void fill(ByteArrayOutputStream out, int multiple) {
        while (out.size() % multiple != 0) {
            out.write(0);
        }
    }

    private void write(boolean[] marks, long entry) {
        int n = image[0].length;
        int more = layout.ends[3] - layout.ends[2];
        boolean[] there = {true, image[1].length > 0, image[2].length + more > 0};
        int[] rights = {5, 4, 6};
        int rows = 2 + (there[1] ? 1 : 0) + (there[2] ? 1 : 0);
        boolean anyShort = false;
        for (int k = 0; k < n / 2; k++) {
            anyShort = anyShort || marks[k] && (image[0][2 * k] & 3) != 3;
        }
        ByteArrayOutputStream table = new ByteArrayOutputStream();
        ByteArrayOutputStream body = new ByteArrayOutputStream();
        CRC32 crc = new CRC32();
        four(crc, entry);
        int begin = 52 + 32 * rows;
        for (int o = 0; o < 3; o++) {
            if (there[o]) {
                // all OUTPUTS with bytes begin at multiples of 16; one without is at the end of the one ahead
                while ((begin + body.size()) % 16 != layout.begins[o] % 16) {
                    body.write(0);
                }
                int extra = o == 2 ? more : 0;
                int length = image[o].length;
                for (int v : new int[] {1, begin + body.size(), layout.begins[o], layout.begins[o], length, length + extra, rights[o], 16}) {
                    number(table, v, 4);
                }
                body.write(image[o], 0, length);
                four(crc, layout.begins[o]);
                four(crc, extra);
                crc.update(image[o]);
            }
        }
        while ((begin + body.size()) % 4 != 0) {
            body.write(0);
        }
        int bytes = (n + 15) / 16;
        int noteLength = 28 + LayoutModel.up(bytes, 4);
        for (int v : new int[] {4, begin + body.size(), 0, 0, noteLength, 0, 4, 4}) {
            number(table, v, 4);
        }
        ByteArrayOutputStream markBytes = new ByteArrayOutputStream();
        for (int k = 0; k < bytes; k++) {
            int v = 0;
            for (int j = 0; j < 8; j++) {
                v |= 8 * k + j < n / 2 && marks[8 * k + j] ? 1 << j : 0;
            }
            markBytes.write(v);
            crc.update(v);
        }
        fill(markBytes, 4);
        number(body, 6, 4);
        number(body, noteLength - 20, 4);
        number(body, 1, 4);
        body.writeBytes(new byte[] {77, 97, 114, 107, 115, 0, 0, 0});
        number(body, n / 2, 4);
        number(body, crc.getValue(), 4);
        body.writeBytes(markBytes.toByteArray());
        ByteArrayOutputStream out = new ByteArrayOutputStream();
        out.writeBytes(new byte[] {127, 69, 76, 70, 1, 1, 1, 0, 0, 0, 0, 0, 0, 0, 0, 0});
        number(out, 2, 2);
        number(out, 243, 2);
        for (long v : new long[] {1, entry, 52, 0, anyShort ? 1 : 0}) {
            number(out, v, 4);
        }
        for (int v : new int[] {52, 32, rows, 0, 0, 0}) {
            number(out, v, 2);
        }
        out.writeBytes(table.toByteArray());
        out.writeBytes(body.toByteArray());
        file = out.toByteArray();
    }

    private static void four(CRC32 crc, long v) {
        for (int k = 0; k < 4; k++) {
            crc.update((int) (v >> 8 * k) & 255);
        }
    }

    private void link() {
        resolve();
        partsAndPieces();
        layOut();
        copy();
        for (Unit u : units) {
            for (Relocation r : u.relocations) {
                relocate(u, r);
            }
        }
        finish();
    }
}
