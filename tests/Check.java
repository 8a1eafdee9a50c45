import java.util.NoSuchElementException;

/** What the tests share: texts that are fed, answers that are compared, exceptions told by numbers. */
public final class Check {
    private Check() {
    }

    private static int wrong = 0;
    private static int asked = 0;

    /** Tells an answer that is not the one that is due. */
    public static void due(String call, long got, long want) {
        asked++;
        if (got != want) {
            wrong++;
            System.out.println(call + " answered " + got + ", due is " + want);
        }
    }

    public static void due(String call, boolean got, boolean want) {
        due(call, got ? 1 : 0, want ? 1 : 0);
    }

    public static void due(String call, String got, String want) {
        asked++;
        if (!got.equals(want)) {
            wrong++;
            System.out.println(call + " answered \"" + got + "\", due is \"" + want + "\"");
        }
    }

    /** Ends a test: with exit code 1 if an answer was wrong. */
    public static void end() {
        System.out.println(wrong == 0 ? "all " + asked + " answers are as due" : wrong + " answers are not as due");
        if (wrong != 0) {
            System.exit(1);
        }
    }

    /** Feeds bytes, twenty at a time; zeros wait without being fed. */
    public static void feed(ChainHouse x, byte[] bytes) {
        for (int from = 0; from < bytes.length; from += 20) {
            int[] five = new int[5];
            int any = 0;
            for (int k = 0; k < 20; k++) {
                int b = from + k < bytes.length ? bytes[from + k] & 255 : 0;
                five[k / 4] |= b << 24 - 8 * (k % 4);
                any |= b;
            }
            if (any != 0) {
                x.feed(five[0], five[1], five[2], five[3], five[4]);
            }
            if (x.end(Math.min(20, bytes.length - from)) < 0) {
                throw new IllegalStateException("the text is too long for the test");
            }
        }
    }

    public static void feed(ChainHouse x, String text) {
        feed(x, text.getBytes(java.nio.charset.StandardCharsets.ISO_8859_1));
    }

    public static final int INDEX = -1001;
    public static final int ARGUMENT = -1002;
    public static final int STATE = -1003;
    public static final int ELEMENT = -1004;

    /** The number of an exception, when it is of that very class: the machine's own are of classes below. */
    private static int thrown(RuntimeException e, Class<?> promised, int number) {
        due("the exception " + e + " is of the class that is promised", e.getClass() == promised, true);
        return number;
    }

    /** What assemble() answers, or the number of its exception. */
    public static int assemble(ChainHouse x, int unit, String text) {
        feed(x, text);
        return assemble(x, unit);
    }

    public static int assemble(ChainHouse x, int unit) {
        try {
            return x.assemble(unit);
        } catch (IndexOutOfBoundsException e) {
            return thrown(e, IndexOutOfBoundsException.class, INDEX);
        } catch (IllegalArgumentException e) {
            return thrown(e, IllegalArgumentException.class, ARGUMENT);
        }
    }

    /** A text must have a fault at a place. */
    public static void fault(String text, int number, int place) {
        ChainHouse x = new ChainHouse();
        due("assemble of " + shown(text), assemble(x, 0, text), ARGUMENT);
        due("fault(0) of " + shown(text), x.fault(0), number);
        due("fault(1) of " + shown(text), x.fault(1), place);
        due("size(0) of " + shown(text), x.size(0), 0);
    }

    /** A text must assemble, to an object that can be read. */
    public static ChainHouse good(String text) {
        ChainHouse x = new ChainHouse();
        int n = assemble(x, 0, text);
        due("assemble of " + shown(text) + " is no fault (fault " + x.fault(0) + " at " + x.fault(1) + ")", n > 0, true);
        due("fault(0) of " + shown(text), x.fault(0), 0);
        due("fault(1) of " + shown(text), x.fault(1), -1);
        if (n > 0) {
            due("size(0) of " + shown(text), x.size(0), n);
            due("check(0) of " + shown(text), x.check(0), 0);
        }
        return x;
    }

    private static String shown(String text) {
        String one = text.replace("\n", "\\n");
        return one.length() > 60 ? one.substring(0, 57) + "..." : one;
    }

    public static int check(ChainHouse x, int unit) {
        try {
            return x.check(unit);
        } catch (IndexOutOfBoundsException e) {
            return thrown(e, IndexOutOfBoundsException.class, INDEX);
        }
    }

    public static int take(ChainHouse x, int unit) {
        try {
            return x.take(unit);
        } catch (IndexOutOfBoundsException e) {
            return thrown(e, IndexOutOfBoundsException.class, INDEX);
        }
    }

    public static int link(ChainHouse x, int set, boolean shrinks) {
        try {
            return x.link(set, shrinks);
        } catch (IllegalArgumentException e) {
            return thrown(e, IllegalArgumentException.class, ARGUMENT);
        } catch (IllegalStateException e) {
            return thrown(e, IllegalStateException.class, STATE);
        }
    }

    /** A link must have a fault. */
    public static void linkFault(ChainHouse x, int set, boolean shrinks, int fault, int unit, int number) {
        due("link", link(x, set, shrinks), STATE);
        due("linked(0)", x.linked(0), fault);
        due("linked(1)", x.linked(1), unit);
        due("linked(2)", x.linked(2), number);
    }

    private static long half(String name, int from) {
        long v = 0;
        for (int k = 0; k < 8; k++) {
            v = v << 8 | (from + k < name.length() ? name.charAt(from + k) : 0);
        }
        return v;
    }

    public static int where(ChainHouse x, String name) {
        try {
            return x.where(half(name, 0), half(name, 8));
        } catch (NoSuchElementException e) {
            return thrown(e, NoSuchElementException.class, ELEMENT);
        }
    }

    /** OUT for an address. */
    public static String told(ChainHouse x, int at) {
        int n = x.tell(at);
        StringBuilder s = new StringBuilder();
        for (int k = 0; k < n; k++) {
            s.append((char) x.letter(k));
        }
        return s.toString();
    }

    /** Links unit 0 (with the others of a set) and loads the image. */
    public static void linkAndLoad(ChainHouse x, int set, boolean shrinks) {
        int n = link(x, set, shrinks);
        due("link is no fault (" + x.linked(0) + ", unit " + x.linked(1) + ", number " + x.linked(2) + ")", n > 0, true);
        due("load()", x.load(), 0);
    }

    /** A number of a file. */
    public static int number(ChainHouse x, int k, int at, int width) {
        int v = 0;
        for (int j = width - 1; j >= 0; j--) {
            v = v << 8 | x.byteAt(k, at + j);
        }
        return v;
    }

    /** Changes a number of a file. */
    public static void put(ChainHouse x, int k, int at, int width, int v) {
        for (int j = 0; j < width; j++) {
            x.spoil(k, at + j, v >> 8 * j);
        }
    }

    /** The row of the IMAGE's TABLE with a sort and rights; -1 without one. */
    public static int imageRow(ChainHouse x, int sort, int rights) {
        for (int k = 0; k < number(x, -1, 44, 2); k++) {
            int row = number(x, -1, 28, 4) + 32 * k;
            if (number(x, -1, row, 4) == sort && number(x, -1, row + 24, 4) == rights) {
                return row;
            }
        }
        return -1;
    }

    /** Puts the right SUM into the IMAGE. */
    public static void fixSum(ChainHouse x) {
        java.util.zip.CRC32 sum = new java.util.zip.CRC32();
        update(x, sum, 24, 4);
        for (int rights : new int[] {5, 4, 6}) {
            int row = imageRow(x, 1, rights);
            if (row >= 0) {
                int n = number(x, -1, row + 16, 4);
                int more = number(x, -1, row + 20, 4) - n;
                update(x, sum, row + 8, 4);
                for (int k = 0; k < 4; k++) {
                    sum.update(more >> 8 * k);
                }
                update(x, sum, number(x, -1, row + 4, 4), n);
            }
        }
        int note = number(x, -1, imageRow(x, 4, 4) + 4, 4);
        update(x, sum, note + 28, (number(x, -1, imageRow(x, 1, 5) + 16, 4) + 15) / 16);
        put(x, -1, note + 24, 4, (int) sum.getValue());
    }

    private static void update(ChainHouse x, java.util.zip.CRC32 sum, int at, int n) {
        for (int k = 0; k < n; k++) {
            sum.update(x.byteAt(-1, at + k));
        }
    }

    /** Puts bytes as the IMAGE or a FILE; of a FILE the first 3000 come by the TEXT, which takes fewer calls. */
    public static void setFile(ChainHouse x, int k, byte[] bytes) {
        int first = k < 0 ? 0 : Math.min(bytes.length, 3000);
        if (k < 0) {
            due("cut", x.cut(k, 0), true);
        } else {
            feed(x, java.util.Arrays.copyOf(bytes, first));
            due("take", x.take(k), first);
        }
        for (int from = first; from < bytes.length; from += 8) {
            long eight = 0;
            for (int j = 0; j < 8; j++) {
                eight = eight << 8 | (from + j < bytes.length ? bytes[from + j] & 255 : 0);
            }
            due("extend", x.extend(k, Math.min(8, bytes.length - from), eight), true);
        }
    }

    /** All bytes of the IMAGE or a FILE, from as many equal objects as are needed: each is used for 512 calls at most. */
    public static byte[] file(java.util.function.Supplier<ChainHouse> made, int k) {
        ChainHouse x = made.get();
        byte[] bytes = new byte[x.size(k)];
        int left = 300;
        for (int i = 0; i < bytes.length; i++) {
            if (left == 0) {
                x = made.get();
                left = 300;
            }
            bytes[i] = (byte) x.byteAt(k, i);
            left--;
        }
        return bytes;
    }

    /** A number in the bytes of a file. */
    public static int number(byte[] bytes, int at, int width) {
        int v = 0;
        for (int k = width - 1; k >= 0; k--) {
            v = v << 8 | bytes[at + k] & 255;
        }
        return v;
    }

    /** Changes a number in the bytes of a file. */
    public static void put(byte[] bytes, int at, int width, int v) {
        for (int k = 0; k < width; k++) {
            bytes[at + k] = (byte) (v >> 8 * k);
        }
    }

    /** An object with a FILE or IMAGE of these bytes. */
    public static ChainHouse withFile(int k, byte[] bytes) {
        ChainHouse x = new ChainHouse();
        setFile(x, k, bytes);
        return x;
    }

    /** The READ object's symbols: name, where, value, size, bind. */
    public static String symbols(ChainHouse x) {
        StringBuilder s = new StringBuilder();
        for (int k = 0; k < x.object(4, 0, 1); k++) {
            for (int c = 0; c < x.object(2, k, 5); c++) {
                s.append((char) x.object(2, k, 6 + c));
            }
            for (int what = 0; what < 4; what++) {
                s.append(' ').append(x.object(2, k, what));
            }
            s.append("; ");
        }
        return s.toString().trim();
    }

    /** The READ object's relocations: section, place, kind, symbol, addend. */
    public static String relocations(ChainHouse x) {
        StringBuilder s = new StringBuilder();
        for (int k = 0; k < x.object(4, 0, 2); k++) {
            for (int what = 0; what < 5; what++) {
                s.append(x.object(3, k, what)).append(what < 4 ? " " : "; ");
            }
        }
        return s.toString().trim();
    }

    public static String starts(ChainHouse x) {
        StringBuilder s = new StringBuilder();
        for (int k = 0; k < x.object(4, 0, 0); k++) {
            s.append(x.object(1, k, 0)).append(' ');
        }
        return s.toString().trim();
    }

    /** The bytes of a section of unit 0's FILE, in hexadecimal; the FILE is as it is written. */
    public static String bytes(ChainHouse x, int section) {
        int row = number(x, 0, 32, 4) + 40 * (section + 1);
        StringBuilder s = new StringBuilder();
        for (int k = 0; k < number(x, 0, row + 20, 4); k++) {
            s.append(String.format("%02x", x.byteAt(0, number(x, 0, row + 16, 4) + k)));
        }
        return s.toString();
    }
}
