/** Promises 4 and 5, and section 2: how a TEXT is read, and its faults 1 to 8 with their places. */
public final class TextTest {
    public static void main(String[] args) {
        bytesAndComments();
        names();
        numbers();
        locals();
        quotes();
        lines();
        operands();
        expressions();
        depth();
        limits();
        Check.end();
    }

    private static String times(int n, String s) {
        return s.repeat(n);
    }

    /** The value of an expression, seen as the number of a .word. */
    private static void value(String expression, int want) {
        ChainHouse x = Check.good(".data\n.word " + expression);
        Check.due("relocations of " + expression, x.object(4, 0, 2), 0);
        int at = Check.number(x, 0, Check.number(x, 0, 32, 4) + 40 * 3 + 16, 4);
        Check.due("value of " + expression, Check.number(x, 0, at, 4), want);
    }

    private static void bytesAndComments() {
        Check.fault("@", 1, 0);
        Check.fault("nop\n  \u0001", 1, 6);
        Check.fault("nop\r\n", 1, 3);
        Check.fault("nop \u0080", 1, 4);
        Check.fault("nop # \u007f", 1, 6);
        Check.fault("nop # ok\t~\nnop #\u0080", 1, 16);
        Check.fault(".word 1 < 2", 1, 8);
        Check.fault(".word 1 >", 1, 8);
        Check.fault("li a0, !", 1, 7);
        Check.fault("li a0, \u0000", 1, 7);
        Check.good("");
        Check.good("\n\n");
        Check.good("# only\t a comment \"'~");
        Check.good("nop # comment @ ! \" '\n nop#x");
        Check.good("\tnop\t\n");
        Check.good(".ascii \"# no comment\"\nli a0,'#'");
        // the first from the left
        Check.fault("li a0, , @", 5, 7);
        Check.fault("li a0, @ ,", 1, 7);
    }

    private static void names() {
        Check.good("abcdefghijklmnop:");
        Check.fault("abcdefghijklmnopq:", 2, 0);
        Check.fault("nop\n .bcdefghijklmnopq", 2, 5);
        Check.fault(".word 1, aaaaaaaaaaaaaaaa$", 2, 9);
        Check.good("_a.$0: .b: A$:");
        Check.good("aZ: zA: Z: A: Zz9: a0$:");
        Check.fault("$a:", 1, 0);
        Check.fault("a$b@", 1, 3);
        Check.good("x32: x01: x00: fp1:\n.word x32, x01");
        for (String r : new String[] {"x0", "x31", "zero", "ra", "sp", "gp", "tp", "t0", "t6", "s0", "s11", "a0", "a7", "fp"}) {
            Check.fault(r + ":", 5, r.length());
        }
        String[] same = {"x0 zero", "x1 ra", "x2 sp", "x3 gp", "x4 tp", "x5 t0", "x7 t2", "x8 s0", "x8 fp", "x9 s1", "x10 a0", "x17 a7",
            "x18 s2", "x27 s11", "x28 t3", "x31 t6"};
        for (String two : same) {
            int space = two.indexOf(' ');
            ChainHouse x = Check.good("mul " + two.substring(0, space) + ", a0, a1");
            ChainHouse y = Check.good("mul " + two.substring(space + 1) + ", a0, a1");
            Check.due(two, Check.number(x, 0, 52, 4), Check.number(y, 0, 52, 4));
        }
    }

    private static void numbers() {
        value("4294967295", -1);
        value("0xfFfFfFfF", -1);
        value("0b11111111111111111111111111111111", -1);
        value("0000000000000000000000017", 17);
        value("0x0000000000001f", 31);
        value("0b101", 5);
        value("0xABCDEF01", 0xabcdef01);
        value("0xabcdef01", 0xabcdef01);
        Check.fault(".word 0xG", 3, 6);
        Check.fault(".word 0x@", 3, 6);
        Check.fault(".word 4294967296", 3, 6);
        Check.fault(".word 99999999999999999999999999", 3, 6);
        Check.fault(".word 0x100000000", 3, 6);
        Check.fault(".word 0x", 3, 6);
        Check.fault(".word 0xg", 3, 6);
        Check.fault(".word 0X1", 5, 7);
        Check.fault(".word 0b2", 5, 7);
        Check.fault(".word 0b100000000000000000000000000000000", 3, 6);
        Check.fault(".word 12abc", 5, 8);
        Check.fault(".word 0b12", 5, 9);
    }

    private static void locals() {
        Check.good("0: j 0b\n j 0f\n0: 9:8: j 9b");
        Check.fault("j 0b", 13, 2);
        Check.fault("1: j 1b0", 5, 6);
        Check.fault("1: j 1b$", 5, 6);
        Check.fault("1: j 1f.", 5, 6);
        Check.fault("1: j 1 b", 5, 7);
        Check.fault("1: j 11b", 5, 7);
        Check.fault("1b: nop", 5, 0);
        value("0b1", 1);
        Check.good("1:j 1b#x\n2 : nop");
    }

    private static void quotes() {
        value("'a'", 97);
        value("'\\n'", 10);
        value("'\\t'", 9);
        value("'\\0'", 0);
        value("'\\\\'", 92);
        value("'\\''", 39);
        value("'\\\"'", 34);
        value("'\"'", 34);
        value("' '", 32);
        for (String bad : new String[] {"''", "'", "'a", "'ab'", "'\\", "'\\x'", "'\\'", "'\n'", "'\t'", "'\u007f'", "\"", "\"ab", "\"a\\q\"", "\"a\nb\"", "\"\t\"", "\"\\\""}) {
            Check.fault(".word " + bad, 4, 6);
        }
        ChainHouse x = Check.good(".data\n.ascii \"a'\\\"\\n\\t\\0\\\\\\'~ \", \"\", \"z\"\n.asciz \"\", \"b\"");
        int[] want = {97, 39, 34, 10, 9, 0, 92, 39, 126, 32, 122, 0, 98, 0};
        Check.due("bytes of strings", x.object(0, 2, 0), want.length);
        int at = Check.number(x, 0, Check.number(x, 0, 32, 4) + 40 * 3 + 16, 4);
        for (int k = 0; k < want.length; k++) {
            Check.due("byte of strings", x.byteAt(0, at + k), want[k]);
        }
    }

    private static void lines() {
        Check.good("a:b:c: 1: 2: nop\n3:\nd :nop");
        Check.fault("a::", 5, 2);
        Check.fault(".:", 5, 0);
        Check.fault(". nop", 5, 0);
        Check.fault("12:", 5, 0);
        Check.fault("0x1:", 5, 0);
        Check.fault("1", 5, 1);
        Check.fault("1 nop", 5, 2);
        Check.fault("1 @", 1, 2);
        Check.fault("1 # x\nnop", 5, 5);
        Check.fault("'1': nop", 5, 0);
        Check.fault("\"a\"", 5, 0);
        Check.fault(", nop", 5, 0);
        Check.fault("(a)", 5, 0);
        Check.fault("nop: nop: nop :x@", 1, 16);
        Check.fault("a: 12 nop", 5, 3);
        // a register's name may be the word of a line, but none that is known
        Check.fault("a0 a1", 9, 0);
        Check.fault("a: x9", 9, 3);
    }

    private static void operands() {
        Check.fault("add a0,", 5, 7);
        Check.fault("add a0,\n", 5, 7);
        Check.fault("add a0, # x\n", 5, 11);
        Check.fault("add a0,, a1", 5, 7);
        Check.fault("add ,", 5, 4);
        Check.fault("add a0 a1", 5, 7);
        Check.fault("add a0)", 5, 6);
        Check.fault("add a0 + 1", 5, 7);
        Check.fault("add a0(a1)", 5, 6);
        Check.fault("lw a0, 4(5)", 5, 9);
        Check.fault("lw a0, 4(foo)", 5, 9);
        Check.fault("lw a0, 4(.)", 5, 9);
        Check.fault("lw a0, 4(", 5, 9);
        Check.fault("lw a0, 4(a1", 5, 11);
        Check.fault("lw a0, 4(a1 + 1)", 5, 12);
        Check.fault("lw a0, (a1 + 1)", 5, 11);
        Check.fault("lw a0, (a1) + 1", 5, 12);
        Check.fault("lw a0, 4(a1)(a2)", 5, 12);
        Check.fault("lw a0, ((a1))", 6, 9);
        Check.fault("lw a0, 4 + (a1)", 6, 12);
        Check.fault("li a0, -a1", 6, 8);
        Check.fault("li a0, 1 + x5", 6, 11);
        Check.fault("lui a0, %hi x", 5, 12);
        Check.fault("lui a0, %hi(x", 5, 13);
        Check.fault("lui a0, %hi()", 5, 12);
        Check.fault("lui a0, %hi(a0)", 6, 12);
        Check.fault("lui a0, %hx(a0)", 6, 9);
        Check.fault("lui a0, %a0(x)", 6, 9);
        Check.fault("lui a0, %.(x)", 6, 9);
        Check.fault("lui a0, %5", 5, 9);
        Check.fault("lui a0, %", 5, 9);
        Check.fault("lui a0, 1 + %hi(x)", 5, 12);
        Check.fault("lui a0, %hi(x) + 1", 5, 15);
        Check.fault("lw a0, %lo(x)(y)", 5, 14);
        Check.fault(".ascii \"a\" \"b\"", 5, 11);
        Check.fault(".ascii \"a\"(a0)", 5, 10);
        Check.fault(".word 1 + \"a\"", 5, 10);
        Check.fault("li a0, *1", 5, 7);
        Check.fault("li a0, +1", 5, 7);
        Check.good("lw a0,(a1)\nlw a0 , ( a1 )\nlw a0,4( a1)\nlw a0,(4)(a1)\nlw a0,-(4)+8(a1)");
    }

    private static void expressions() {
        value("1 | 6 ^ 3 & 2 << 1 + 2 * 3", 1 | 6 ^ 3 & 2 << 1 + 2 * 3);
        value("2 * 3 + 4 << 1 & 127 ^ 1 | 64", 2 * 3 + 4 << 1 & 127 ^ 1 | 64);
        value("1 + 2 * 3", 7);
        value("2 * 3 + 1", 7);
        value("7 - 6 / 3", 5);
        value("9 - 7 % 4", 6);
        value("1 << 2 + 1", 8);
        value("1 + 2 << 1", 6);
        value("16 >> 5 - 3", 4);
        value("12 & 1 << 2", 4);
        value("3 ^ 1 & 2", 3);
        value("1 & 2 ^ 3", 3);
        value("5 | 4 ^ 4", 5);
        value("4 ^ 4 | 5", 5);
        value("100 - 10 - 1", 89);
        value("100 / 10 / 2", 5);
        value("100 % 30 % 7", 3);
        value("100 / 7 * 7 % 9", 8);
        value("1 << 2 << 3", 32);
        value("0x80000000 >> 31", 1);
        value("0x80000000 >> 33", 0x40000000);
        value("1 << 33", 2);
        value("1 << -1", 0x80000000);
        value("-7 / 2", -3);
        value("-7 % 2", -1);
        value("7 / -2", -3);
        value("7 % -2", 1);
        value("0x80000000 / -1", 0x80000000);
        value("0x80000000 % -1", 0);
        value("-0x80000000", 0x80000000);
        value("0x7fffffff + 1", 0x80000000);
        value("0x10000 * 0x10000 + 3", 3);
        value("~0", -1);
        value("-~-~5", 7);
        value("~-5 + 1", 5);
        value("- 1 - - 1", 0);
        value("-(2 + 3) * -(1)", 5);
        value("(1 + 2) * (3 + 4)", 21);
        value("8 >> 1 + 1", 2);
        Check.fault(".word 1 / 0", 14, 6);
        Check.fault(".word 1 % (2 - 2)", 14, 6);
        Check.fault(".word (1", 5, 8);
        Check.fault(".word (1))", 5, 9);
        Check.fault(".word 1 +", 5, 9);
        Check.fault(".word 1 + * 2", 5, 10);
        Check.fault(".word 1 2", 5, 8);
        Check.fault(".word ()", 5, 7);
        Check.fault(".word (1, 2)", 5, 8);
        Check.fault(".word ~", 5, 7);
    }

    private static void depth() {
        value(times(19, "(") + "1" + times(19, ")"), 1);
        value(times(19, "-") + "1", -1);
        value(times(10, "-(") .substring(0, 19) + "1" + times(9, ")"), 1);
        Check.fault(".word " + times(20, "(") + "1" + times(20, ")"), 7, 26);
        Check.fault(".word " + times(20, "~") + "1", 7, 26);
        Check.fault(".word " + times(21, "-") + "1", 7, 26);
        Check.fault(".word " + times(20, "(") + "a0", 6, 26);
        Check.fault(".word " + times(20, "(") + ")", 5, 26);
        Check.fault(".word " + times(20, "(") + "@", 1, 26);
        value(times(19, "(") + "1" + times(19, ")") + "+" + times(19, "-") + "1", 0);
        Check.good("lui a0, %hi(" + times(19, "(") + "x" + times(19, ")") + ")");
        Check.fault("lui a0, %hi(" + times(20, "(") + "x" + times(20, ")") + ")", 7, 32);
    }

    private static void limits() {
        Check.good(times(400, ".text\n"));
        Check.fault(times(400, ".text\n") + "\n .text", 8, 2402);
        Check.fault(times(400, ".text\n") + "1:", 8, 2400);
        Check.fault(times(400, ".text\n") + "a:", 8, 2400);
        Check.fault(times(400, ".text\n") + "12", 5, 2400);
        Check.good(times(399, ".text\n") + "1:");
        String bytes = ".byte 1" + times(399, ",1") + "\n";
        Check.good(bytes + bytes);
        Check.fault(bytes + bytes + "j x", 8, 2 * bytes.length() + 2);
        Check.fault(bytes + bytes + "j a0", 8, 2 * bytes.length() + 2);
        Check.fault(bytes + bytes + "j ,", 5, 2 * bytes.length() + 2);
        String sixty = "-1" + times(29, "+1");
        value(sixty, 28);
        Check.fault(".word " + sixty + "+1", 8, 6 + sixty.length());
        value("~1" + times(19, "+~1"), -40);
        Check.fault(".word ~1" + times(19, "+~1") + "+1", 8, 66);
        Check.good(".word " + sixty + "," + sixty);
        StringBuilder many = new StringBuilder();
        for (int k = 0; k < 49; k++) {
            many.append(k % 7 == 0 ? "\n.word " : ",").append(times(19, "1+")).append("-1");
        }
        many.append("\n");
        // 49 times 40 items, 40 more may come
        Check.good(many + ".word " + times(19, "1+") + "-1");
        Check.fault(many + ".word " + times(19, "1+") + "-1,1", 8, many.length() + 6 + 41);
        Check.fault(many + ".word " + times(19, "1+") + "-1\nlw a0,(a1)", 8, many.length() + 6 + 40 + 7);
        Check.fault(many + ".word " + times(19, "1+") + "--1", 8, many.length() + 6 + 40);
        StringBuilder labels = new StringBuilder();
        for (int k = 0; k < 149; k++) {
            labels.append("n").append(k).append(k % 20 == 19 ? "\n" : ",");
        }
        String names = ".word " + labels.toString().replace("\n", "\n.word ");
        names = names.substring(0, names.length() - 1);
        // 149 names and that of .word; too many symbols for an object, but not for a TEXT
        Check.fault(names, 18, lineOf(names, 100));
        Check.fault(names + ",zz", 8, names.length() + 1);
        Check.fault(names + "\nzz:", 8, names.length() + 1);
        Check.fault(names + "\nnop", 8, names.length() + 1);
        Check.fault(names + ",n1,%hi(n2),.,a0\n.word (a0)\n@", 1, names.length() + 28);
        byte[] full = times(2999, " ").getBytes();
        ChainHouse x = new ChainHouse();
        Check.feed(x, full);
        Check.due("end", x.end(1), 3000);
        Check.due("assemble of 2999 blanks and a 0", Check.assemble(x, 0), Check.ARGUMENT);
        Check.due("fault(0)", x.fault(0), 1);
        Check.due("fault(1)", x.fault(1), 2999);
    }

    /** Where the line begins in which the name of a number stands. */
    private static int lineOf(String text, int name) {
        return text.lastIndexOf('\n', text.indexOf("n" + name)) + 1;
    }
}
