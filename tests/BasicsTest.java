/** Promises 1 to 11: a new object, the TEXT, FILES and their bytes. */
public final class BasicsTest {
    public static void main(String[] args) {
        newObject();
        texts();
        refusals();
        files();
        Check.end();
    }

    private static void newObject() {
        ChainHouse x = new ChainHouse();
        Check.due("NONE", ChainHouse.NONE, -1);
        for (int k = 0; k < 6; k++) {
            Check.due("size", x.size(k), 0);
            Check.due("byteAt", x.byteAt(k, 0), -1);
        }
        Check.due("size(-1)", x.size(-1), 0);
        Check.due("size(6)", x.size(6), -1);
        Check.due("size(-2)", x.size(-2), -1);
        Check.due("fault(0)", x.fault(0), 0);
        Check.due("fault(1)", x.fault(1), -1);
        Check.due("fault(2)", x.fault(2), -1);
        Check.due("linked(0)", x.linked(0), 0);
        Check.due("linked(1)", x.linked(1), -1);
        Check.due("linked(2)", x.linked(2), -1);
        Check.due("linked(3)", x.linked(3), 0);
        Check.due("linked(4)", x.linked(4), 0);
        Check.due("linked(5)", x.linked(5), -1);
        Check.due("place()", x.place(), -1);
        Check.due("where", Check.where(x, "_start"), Check.ELEMENT);
        Check.due("letter(0)", x.letter(0), -1);
        Check.due("output(0)", x.output(0), -1);
        for (int k = 0; k < 9; k++) {
            Check.due("state", x.state(k), 0);
        }
        Check.due("state(9)", x.state(9), -1);
        Check.due("state(-1)", x.state(-1), -1);
        for (int k = -1; k < 35; k++) {
            Check.due("get", x.get(k), 0);
        }
        Check.due("peek(0)", x.peek(0), 0);
        Check.due("rights(0)", x.rights(0), 0);
        Check.due("step()", x.step(), 1);
        Check.due("state(1)", x.state(1), 0);
    }

    private static void texts() {
        ChainHouse x = new ChainHouse();
        Check.due("end(0)", x.end(0), 0);
        Check.due("end(-1)", x.end(-1), -1);
        Check.due("end(21)", x.end(21), -1);
        x.feed(0x01020304, 0x05060708, -1, 0, 0x11121380);
        Check.due("end(21)", x.end(21), -1);
        Check.due("end(20)", x.end(20), 20);
        Check.due("end(3)", x.end(3), 23);
        x.feed(0x21222324, 0, 0, 0, 0);
        Check.due("end(1)", x.end(1), 24);
        Check.due("end(2): what waited is 0 again", x.end(2), 26);
        Check.due("take(0)", x.take(0), 26);
        int[] want = {1, 2, 3, 4, 5, 6, 7, 8, 255, 255, 255, 255, 0, 0, 0, 0, 0x11, 0x12, 0x13, 0x80, 0, 0, 0, 0x21, 0, 0};
        for (int k = 0; k < want.length; k++) {
            Check.due("byteAt(0, " + k + ")", x.byteAt(0, k), want[k]);
        }
        Check.due("byteAt(0, 26)", x.byteAt(0, 26), -1);
        Check.due("byteAt(0, -1)", x.byteAt(0, -1), -1);
        Check.due("end(0) behind take", x.end(0), 0);
        for (int k = 1; k <= 150; k++) {
            Check.due("end(20)", x.end(20), 20 * k);
        }
        Check.due("end(1) of a full TEXT", x.end(1), -1);
        Check.due("end(0) of a full TEXT", x.end(0), 3000);
        Check.due("take", Check.take(x, 6), Check.INDEX);
        Check.due("take", Check.take(x, -1), Check.INDEX);
        Check.due("end(0)", x.end(0), 3000);
        Check.due("take(5)", x.take(5), 3000);
        Check.due("take(5)", x.take(5), 0);
        Check.due("size(5)", x.size(5), 0);
    }

    /** What is refused or throws leaves the TEXT, the bytes that wait, the FILES and what is told of FAULTS as they were. */
    private static void refusals() {
        ChainHouse x = new ChainHouse();
        for (int k = 0; k < 149; k++) {
            x.end(20);
        }
        Check.due("end(11)", x.end(11), 2991);
        x.feed(0x01020304, 0x05060708, 0x090a0b0c, 0, 0);
        for (int n : new int[] {10, 20, 21, -1, 2147483647, -2147483648}) {
            Check.due("end(" + n + ") is refused", x.end(n), -1);
        }
        Check.due("end(9)", x.end(9), 3000);
        Check.due("end(1)", x.end(1), -1);
        Check.due("take", x.take(2), 3000);
        for (int k = 0; k < 9; k++) {
            Check.due("the bytes that waited", x.byteAt(2, 2991 + k), k + 1);
        }
        Check.due("the last one of the first", x.byteAt(2, 2990), 0);
        // the bytes that wait stay behind take() and assemble(), with or without a FAULT
        x.feed(0x6e6f7061, 0, 0, 0, 0);
        Check.due("take of nothing", x.take(3), 0);
        Check.due("size", x.size(3), 0);
        Check.due("assemble of nothing", Check.assemble(x, 3) > 0, true);
        int n = x.size(3);
        Check.due("end(3)", x.end(3), 3);
        Check.due("assemble of nop", Check.assemble(x, 3) > n, true);
        n = x.size(3);
        x.feed(0x61626364, 0, 0, 0, 0);
        Check.due("end(1)", x.end(1), 1);
        x.feed(0x65660000, 0, 0, 0, 0);
        Check.due("assemble of a", Check.assemble(x, 3), Check.ARGUMENT);
        Check.due("fault(0)", x.fault(0), 9);
        Check.due("the FILE stays", x.size(3), n);
        Check.due("end(2)", x.end(2), 2);
        Check.due("assemble", Check.assemble(x, 6), Check.INDEX);
        Check.due("take", Check.take(x, 6), Check.INDEX);
        Check.due("fault(0) stays", x.fault(0), 9);
        Check.due("fault(1) stays", x.fault(1), 0);
        Check.due("take(3)", x.take(3), 2);
        Check.due("fault(0) stays behind take", x.fault(0), 9);
        Check.due("byteAt", x.byteAt(3, 0), 'e');
        Check.due("byteAt", x.byteAt(3, 1), 'f');
        Check.due("size", x.size(3), 2);
    }

    /** A unit's FILE, or the IMAGE, that has nearly as many bytes as may be. */
    private static ChainHouse big(int k) {
        ChainHouse x = new ChainHouse();
        String full = ".zero 2046\n.data\n.zero 2048\n.rodata\n.zero 2048\n";
        if (k >= 0) {
            Check.due("assemble", Check.assemble(x, k, full) > 6400, true);
        } else {
            Check.assemble(x, 0, ".globl _start\n_start: nop\n" + full);
            Check.assemble(x, 1, full.replace("2046", "2048"));
            Check.due("link", Check.link(x, 3, true) > 12000, true);
        }
        return x;
    }

    private static void files() {
        long eight = 0x0102030405060788L;
        for (int k = -1; k < 6; k++) {
            ChainHouse x = new ChainHouse();
            for (int n : new int[] {0, 9, -1, 2147483647, -2147483648}) {
                Check.due("extend " + n, x.extend(k, n, eight), false);
            }
            Check.due("size", x.size(k), 0);
            Check.due("cut of none", x.cut(k, 0), true);
            Check.due("extend 8", x.extend(k, 8, eight), true);
            Check.due("extend 1", x.extend(k, 1, -1L), true);
            Check.due("size", x.size(k), 9);
            Check.due("byteAt 0", x.byteAt(k, 0), 1);
            Check.due("byteAt 7", x.byteAt(k, 7), 0x88);
            Check.due("byteAt 8", x.byteAt(k, 8), 255);
            Check.due("byteAt 9", x.byteAt(k, 9), -1);
            Check.due("byteAt -1", x.byteAt(k, -1), -1);
            Check.due("spoil", x.spoil(k, 7, 0x1fe), 0x88);
            Check.due("byteAt 7", x.byteAt(k, 7), 0xfe);
            Check.due("spoil", x.spoil(k, 0, -1), 1);
            Check.due("spoil", x.spoil(k, 0, 256), 255);
            Check.due("byteAt 0", x.byteAt(k, 0), 0);
            Check.due("spoil", x.spoil(k, 9, 1), -1);
            Check.due("spoil", x.spoil(k, -1, 1), -1);
            Check.due("cut", x.cut(k, 10), false);
            Check.due("cut", x.cut(k, -1), false);
            Check.due("size", x.size(k), 9);
            Check.due("cut", x.cut(k, 9), true);
            Check.due("byteAt 8", x.byteAt(k, 8), 255);
            Check.due("cut", x.cut(k, 4), true);
            Check.due("size", x.size(k), 4);
            Check.due("what was cut off is gone", x.byteAt(k, 4), -1);
            Check.due("spoil of it", x.spoil(k, 4, 7), -1);
            Check.due("extend 2", x.extend(k, 2, 0x7778000000000000L), true);
            Check.due("byteAt 4", x.byteAt(k, 4), 0x77);
            Check.due("byteAt 5", x.byteAt(k, 5), 0x78);
            Check.due("byteAt 6", x.byteAt(k, 6), -1);
            Check.due("cut", x.cut(k, 0), true);
            Check.due("size", x.size(k), 0);
            Check.due("cut", x.cut(k, 1), false);
            for (int other = -1; other < 6; other++) {
                Check.due("the others have none", x.size(other), 0);
            }
            x = big(k);
            int room = k < 0 ? 16384 : 8192;
            boolean good = true;
            int all = (room - 4 - x.size(k)) / 8;
            for (int n = 0; n < all; n++) {
                good = good && x.extend(k, 8, eight);
            }
            int left = room - x.size(k);
            Check.due("extend up to the room", good && left >= 4 && left < 12, true);
            x.extend(k, left - 4, eight);
            Check.due("extend beyond", x.extend(k, 5, eight), false);
            Check.due("extend beyond", x.extend(k, 8, eight), false);
            Check.due("size", x.size(k), room - 4);
            Check.due("extend to the end", x.extend(k, 4, eight), true);
            Check.due("byteAt", x.byteAt(k, room - 1), 4);
            Check.due("extend beyond", x.extend(k, 1, eight), false);
            Check.due("size", x.size(k), room);
            Check.due("cut", x.cut(k, room + 1), false);
            Check.due("cut", x.cut(k, room), true);
            Check.due("byteAt", x.byteAt(k, room), -1);
        }
        ChainHouse x = new ChainHouse();
        for (int k : new int[] {6, -2, 2147483647, -2147483648}) {
            Check.due("extend", x.extend(k, 1, eight), false);
            Check.due("cut", x.cut(k, 0), false);
            Check.due("spoil", x.spoil(k, 0, 0), -1);
            Check.due("size", x.size(k), -1);
            Check.due("byteAt", x.byteAt(k, 0), -1);
        }
    }
}
