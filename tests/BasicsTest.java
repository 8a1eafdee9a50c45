/** Promises 1 to 11: a new object, the TEXT, FILES and their bytes. */
public final class BasicsTest {
    public static void main(String[] args) {
        newObject();
        texts();
        files();
        Check.end();
    }

    private static void newObject() {
        ChainHouse x = new ChainHouse();
        Check.due("NONE", ChainHouse.NONE, -1);
        for (int k = 0; k < 6; k++) {
            Check.due("size", x.size(k), 0);
            Check.due("byteAt", x.byteAt(k, 0), -1);
        }
        Check.due("size(-1)", x.size(-1), 0);
        Check.due("size(6)", x.size(6), -1);
        Check.due("size(-2)", x.size(-2), -1);
        Check.due("fault(0)", x.fault(0), 0);
        Check.due("fault(1)", x.fault(1), -1);
        Check.due("fault(2)", x.fault(2), -1);
        Check.due("linked(0)", x.linked(0), 0);
        Check.due("linked(1)", x.linked(1), -1);
        Check.due("linked(2)", x.linked(2), -1);
        Check.due("linked(3)", x.linked(3), 0);
        Check.due("linked(4)", x.linked(4), 0);
        Check.due("linked(5)", x.linked(5), -1);
        Check.due("place()", x.place(), -1);
        Check.due("where", Check.where(x, "_start"), Check.ELEMENT);
        Check.due("letter(0)", x.letter(0), -1);
        Check.due("output(0)", x.output(0), -1);
        for (int k = 0; k < 9; k++) {
            Check.due("state", x.state(k), 0);
        }
        Check.due("state(9)", x.state(9), -1);
        Check.due("state(-1)", x.state(-1), -1);
        for (int k = -1; k < 35; k++) {
            Check.due("get", x.get(k), 0);
        }
        Check.due("peek(0)", x.peek(0), 0);
        Check.due("rights(0)", x.rights(0), 0);
        Check.due("step()", x.step(), 1);
        Check.due("state(1)", x.state(1), 0);
    }

    private static void texts() {
        ChainHouse x = new ChainHouse();
        Check.due("end(0)", x.end(0), 0);
        Check.due("end(-1)", x.end(-1), -1);
        Check.due("end(21)", x.end(21), -1);
        x.feed(0x01020304, 0x05060708, -1, 0, 0x11121380);
        Check.due("end(21)", x.end(21), -1);
        Check.due("end(20)", x.end(20), 20);
        Check.due("end(3)", x.end(3), 23);
        x.feed(0x21222324, 0, 0, 0, 0);
        Check.due("end(1)", x.end(1), 24);
        Check.due("end(2): what waited is 0 again", x.end(2), 26);
        Check.due("take(0)", x.take(0), 26);
        int[] want = {1, 2, 3, 4, 5, 6, 7, 8, 255, 255, 255, 255, 0, 0, 0, 0, 0x11, 0x12, 0x13, 0x80, 0, 0, 0, 0x21, 0, 0};
        for (int k = 0; k < want.length; k++) {
            Check.due("byteAt(0, " + k + ")", x.byteAt(0, k), want[k]);
        }
        Check.due("byteAt(0, 26)", x.byteAt(0, 26), -1);
        Check.due("byteAt(0, -1)", x.byteAt(0, -1), -1);
        Check.due("end(0) behind take", x.end(0), 0);
        for (int k = 1; k <= 150; k++) {
            Check.due("end(20)", x.end(20), 20 * k);
        }
        Check.due("end(1) of a full TEXT", x.end(1), -1);
        Check.due("end(0) of a full TEXT", x.end(0), 3000);
        Check.due("take", takeOf(x, 6), Check.INDEX);
        Check.due("take", takeOf(x, -1), Check.INDEX);
        Check.due("end(0)", x.end(0), 3000);
        Check.due("take(5)", x.take(5), 3000);
        Check.due("take(5)", x.take(5), 0);
        Check.due("size(5)", x.size(5), 0);
    }

    private static int takeOf(ChainHouse x, int unit) {
        try {
            return x.take(unit);
        } catch (IndexOutOfBoundsException e) {
            return Check.INDEX;
        }
    }

    private static void files() {
        ChainHouse x = new ChainHouse();
        long eight = 0x0102030405060788L;
        for (int k = -1; k < 6; k++) {
            Check.due("extend 0", x.extend(k, 0, eight), false);
            Check.due("extend 9", x.extend(k, 9, eight), false);
            Check.due("extend 8", x.extend(k, 8, eight), true);
            Check.due("extend 1", x.extend(k, 1, -1L), true);
            Check.due("size", x.size(k), 9);
            Check.due("byteAt 0", x.byteAt(k, 0), 1);
            Check.due("byteAt 7", x.byteAt(k, 7), 0x88);
            Check.due("byteAt 8", x.byteAt(k, 8), 255);
            Check.due("byteAt 9", x.byteAt(k, 9), -1);
            Check.due("spoil", x.spoil(k, 7, 0x1fe), 0x88);
            Check.due("byteAt 7", x.byteAt(k, 7), 0xfe);
            Check.due("spoil", x.spoil(k, 9, 1), -1);
            Check.due("spoil", x.spoil(k, -1, 1), -1);
            Check.due("cut", x.cut(k, 10), false);
            Check.due("cut", x.cut(k, -1), false);
            Check.due("cut", x.cut(k, 9), true);
            Check.due("cut", x.cut(k, 4), true);
            Check.due("size", x.size(k), 4);
            int room = k < 0 ? 16384 : 8192;
            boolean good = true;
            for (int n = 4; n + 8 <= room; n += 8) {
                good = good && x.extend(k, 8, eight);
            }
            Check.due("extend up to the room", good, true);
            Check.due("extend beyond", x.extend(k, 5, eight), false);
            Check.due("extend to the end", x.extend(k, 4, eight), true);
            Check.due("extend beyond", x.extend(k, 1, eight), false);
            Check.due("size", x.size(k), room);
            Check.due("cut", x.cut(k, 0), true);
            Check.due("size", x.size(k), 0);
            Check.due("cut", x.cut(k, 0), true);
            Check.due("cut", x.cut(k, 1), false);
        }
        for (int k : new int[] {6, -2, 2147483647, -2147483648}) {
            Check.due("extend", x.extend(k, 1, eight), false);
            Check.due("cut", x.cut(k, 0), false);
            Check.due("spoil", x.spoil(k, 0, 0), -1);
            Check.due("size", x.size(k), -1);
            Check.due("byteAt", x.byteAt(k, 0), -1);
        }
    }
}
