import java.nio.charset.StandardCharsets;

/** Section 2, sentence by sentence: the last value that may be and the first that may not, with the PLACES of the FAULTS. */
public final class EdgesTextTest {
    private static final String LONGEST = "abcdefghijklmnop";
    private static final String TOO_LONG = "abcdefghijklmnopq";

    public static void main(String[] args) {
        beginnings();
        comments();
        quoted();
        names();
        numbers();
        locals();
        touching();
        lines();
        depths();
        statements();
        operands();
        itemsOfOne();
        items();
        nameNumbers();
        leastNumbers();
        binding();
        again();
        Check.end();
    }

    private static String times(int n, String s) {
        return s.repeat(n);
    }

    /** The FAULT and PLACE of a text, as 10000 times the number and the place; 0 without one. */
    private static int faultOf(String text) {
        ChainHouse x = new ChainHouse();
        int n = Check.assemble(x, 0, text);
        Check.due("a FAULT is told", n < 0, x.fault(0) != 0);
        Check.due("what an assemble with a FAULT leaves", n < 0 ? x.size(0) : 0, 0);
        return x.fault(0) == 0 ? 0 : 10000 * x.fault(0) + x.fault(1);
    }

    private static boolean isLetter(int c) {
        return c >= 'a' && c <= 'z' || c >= 'A' && c <= 'Z';
    }

    private static boolean isDigit(int c) {
        return c >= '0' && c <= '9';
    }

    private static boolean isOfName(int c) {
        return isLetter(c) || isDigit(c) || c == '_' || c == '.' || c == '$';
    }

    /** 1: bytes with which no word can begin, ahead of a line's end and within a line. */
    private static void beginnings() {
        for (int c = 0; c < 256; c++) {
            boolean begins = isLetter(c) || isDigit(c) || "_.'\",():+-*/%&|^~ \t\n#".indexOf(c) >= 0;
            int got = faultOf("nop\n " + (char) c);
            Check.due("byte " + c + " begins no word", got == 10005, !begins);
            got = faultOf("nop " + (char) c + "\n");
            Check.due("byte " + c + " begins no word behind one", got == 10004, !begins);
            Check.due("a FAULT of byte " + c, got != 0, " \t\n#:".indexOf(c) < 0);
        }
        Check.fault("nop <", 1, 4);
        Check.fault("nop >", 1, 4);
        Check.fault("nop <>", 1, 4);
        Check.fault("nop < <", 1, 4);
        Check.fault("nop <<", 5, 4);
        Check.fault("nop >>", 5, 4);
        Check.fault(".word 1 <<<1", 1, 10);
        Check.fault(".word 1 >>>1", 1, 10);
    }

    private static void comments() {
        for (int c = 0; c < 256; c++) {
            boolean may = c >= 32 && c <= 126 || c == 9 || c == 10;
            Check.due("byte " + c + " in a COMMENT", faultOf("nop #" + (char) c), may ? 0 : 10005);
            Check.due("byte " + c + " in a COMMENT ahead of others", faultOf("#ab" + (char) c + "\n"), c == 'x' || may ? 0 : 10003);
        }
        // a COMMENT with a fault stands behind what is at fault ahead of it, and ahead of the line's end
        Check.fault("nop , #\u0001", 5, 4);
        Check.fault("add a0, #\u0001\n", 1, 9);
        Check.fault("a: 1 #\u0001", 1, 6);
        Check.fault("add a0, #\n", 5, 9);
        Check.fault("add a0, #", 5, 9);
        Check.good("#\nnop#\n#");
    }

    private static void quoted() {
        for (int c = 0; c < 256; c++) {
            boolean plain = c >= 32 && c <= 126 && c != '\\';
            Check.due("CHARACTER of byte " + c, faultOf(".word '" + (char) c + "'"), plain && c != '\'' ? 0 : 40006);
            Check.due("STRING with byte " + c, faultOf(".ascii \"a" + (char) c + "b\""), plain && c != '"' ? 0 : c == '"' ? 50010 : 40007);
            boolean escaped = "nt0\\'\"".indexOf(c) >= 0;
            Check.due("CHARACTER of \\ and byte " + c, faultOf(".word '\\" + (char) c + "'"), escaped ? 0 : 40006);
            Check.due("STRING with \\ and byte " + c, faultOf(".ascii \"\\" + (char) c + "\""), escaped ? 0 : 40007);
        }
        Check.fault(".word ''", 4, 6);
        Check.fault(".word 'ab'", 4, 6);
        Check.fault(".word 'a", 4, 6);
        Check.fault(".word '\\n", 4, 6);
        Check.fault(".word '", 4, 6);
        Check.fault(".ascii \"", 4, 7);
        Check.fault(".ascii \"a", 4, 7);
        Check.fault(".ascii \"a\\", 4, 7);
        Check.fault(".ascii \"a\\\"", 4, 7);
        Check.fault(".ascii \"a\nb\"", 4, 7);
        Check.due("a STRING of 0 bytes", Check.good(".ascii \"\"").object(0, 0, 0), 0);
        Check.due("a STRING of 2048 bytes", Check.good(".ascii \"" + times(2048, "x") + "\"").object(0, 0, 0), 2048);
        Check.due("the bytes that \\ tells", Check.bytes(Check.good(".ascii \"\\n\\t\\0\\\\\\'\\\"\""), 0), "0a09005c2722");
        Check.due("CHARACTERS", Check.bytes(Check.good(".byte '\\n','\\t','\\0','\\\\','\\'','\\\"','\"','#',' ','~'"), 0), "0a09005c2722" + "2223207e");
    }

    /** 2: names of 16 and 17 bytes wherever a name can stand, and the bytes of which names are. */
    private static void names() {
        Check.good(LONGEST + ": .word " + LONGEST + "\n.globl " + LONGEST);
        Check.fault(TOO_LONG + ":", 2, 0);
        Check.fault(LONGEST, 9, 0);
        Check.fault(TOO_LONG, 2, 0);
        Check.fault(".word " + TOO_LONG, 2, 6);
        Check.fault(".word 1 + " + TOO_LONG, 2, 10);
        Check.fault(".word %" + LONGEST + "(1)", 6, 7);
        Check.fault(".word %" + TOO_LONG + "(1)", 2, 7);
        Check.fault("lw a0, 4(" + LONGEST + ")", 5, 9);
        Check.fault("lw a0, 4(" + TOO_LONG + ")", 2, 9);
        Check.fault("nop " + TOO_LONG, 2, 4);
        Check.fault("1 " + TOO_LONG, 2, 2);
        Check.good("." + LONGEST.substring(1) + ": _" + LONGEST.substring(1) + ":");
        for (int c = 33; c < 127; c++) {
            boolean first = isLetter(c) || c == '_' || c == '.';
            Check.due("a NAME that begins with " + (char) c, faultOf((char) c + "q0_$.:") == 0, first || c == '#');
            Check.due("a NAME with " + (char) c, faultOf("q" + (char) c + "p:") == 0, isOfName(c) || c == ':');
        }
        // HERE is the name . alone
        Check.fault(".:", 5, 0);
        Check.fault(".", 5, 0);
        Check.good("..: .0: ._:");
        // registers are those names alone
        for (String r : "x0 x1 x9 x10 x19 x20 x29 x30 x31 zero ra sp gp tp t0 t1 t2 t3 t4 t5 t6 s0 s1 s2 s9 s10 s11 a0 a1 a6 a7 fp".split(" ")) {
            Check.fault(".word " + r + " + 1", 5, 7 + r.length());
            Check.fault(".word 1 + " + r, 6, 10);
        }
        for (String r : "x32 x00 x01 x010 x t7 t a8 a s12 s zer zeroo ra0 X0 A0 FP Zero fp0 pc x31_ a0$ t6. x1x".split(" ")) {
            Check.good(".word 1 + " + r);
            Check.good(r + ":");
        }
    }

    /** 3: numbers up to 2^32 - 1 in each base, with zeros ahead, and 0x without a digit. */
    private static void numbers() {
        String[] good = {"0", "00", "4294967295", "0000004294967295", "0xffffffff", "0x00000000ffffffff", "0xFFFFFFFF", "0b" + times(32, "1"), "0b000" + times(32, "1"), "0b0", "0b1", "0x0", "08", "09"};
        int[] want = {0, 0, -1, -1, -1, -1, -1, -1, -1, 0, 1, 0, 8, 9};
        for (int k = 0; k < good.length; k++) {
            ChainHouse x = Check.good(".word " + good[k]);
            Check.due("number " + good[k], Check.number(x, 0, 52, 4), want[k]);
        }
        String[] bad = {"4294967296", "0000004294967296", "4294967300", "42949672950", "99999999999999999999999999999999999", "0x100000000", "0x0000100000000",
            "0x1ffffffff", "0b1" + times(32, "0"), "0b0001" + times(32, "0"), "0x", "0x+1", "0x_", "0x.", "0xg", "0xG", "0x 1"};
        for (String b : bad) {
            Check.fault(".word " + b, 3, 6);
            Check.fault("nop\n.word 1, -" + b, 3, 14);
        }
        Check.fault("0x:", 3, 0);
        Check.fault("4294967296:", 3, 0);
        Check.fault("4294967295:", 5, 0);
        Check.fault(".word 0b2", 5, 7);
        Check.fault(".word 0bx", 5, 7);
        Check.fault(".word 0B1", 5, 7);
        Check.fault(".word 0X1", 5, 7);
        Check.fault(".word 0b12", 5, 9);
        Check.fault(".word 0x1g", 5, 9);
        Check.fault(".word 1a", 5, 7);
        Check.fault(".word 1x5", 5, 7);
        Check.fault(".word 10x5", 5, 8);
        Check.fault(".word 1b1", 5, 7);
        Check.fault(".word 10b1", 5, 8);
        Check.fault(".word 1_", 5, 7);
        Check.fault(".word 1.", 5, 7);
        Check.fault(".word 1$", 1, 7);
        for (char c = '0'; c <= '9'; c++) {
            Check.due("digit " + c, Check.number(Check.good(".word 0x" + c + ", 1" + c), 0, 52, 4), c - '0');
        }
        for (int k = 0; k < 6; k++) {
            ChainHouse x = Check.good(".word 0x" + (char) ('a' + k) + ", 0x" + (char) ('A' + k));
            Check.due("digit of base 16", Check.number(x, 0, 52, 4), 10 + k);
            Check.due("digit of base 16", Check.number(x, 0, 56, 4), 10 + k);
        }
    }

    /** LOCALS: what may follow the two bytes, and each digit. */
    private static void locals() {
        for (int c = 33; c < 127; c++) {
            for (String two : new String[] {"1b", "1f", "0f"}) {
                // it is no LOCAL before these: then the letter is a name that can't stand there
                int got = faultOf("1: .word " + two + (char) c);
                Check.due(two + " and " + (char) c, got == 50010, isOfName(c));
            }
        }
        for (int digit = 0; digit < 10; digit++) {
            Check.good(digit + ": .word " + digit + "b, " + digit + "f\n" + digit + ":");
            Check.fault(".word " + digit + "b", 13, 6);
            Check.fault(".word " + digit + "f", 19, 6);
        }
        // 0b and a digit of base 2 is a NUMBER, 0b and another digit the number 0 and a name
        Check.due("0b1", Check.number(Check.good(".word 0b1"), 0, 52, 4), 1);
        Check.good("0: .word 0b");
        Check.good("0: .word 0b+1");
        Check.fault("0: .word 0b2", 5, 10);
        Check.fault("1: .word 1b1", 5, 10);
        Check.fault("1: .word 11b", 5, 11);
        Check.fault("1: .word 1 b", 5, 11);
        Check.fault("1: .word 1B", 5, 10);
        Check.fault("1: .word 1a", 5, 10);
        Check.fault("1b:", 5, 0);
        Check.fault("1f nop", 5, 0);
    }

    /** Words that need no blank between them. */
    private static void touching() {
        int[][] want = {{1}, {8}, {2}, {5}, {3}, {-1}, {6}, {2}, {1}, {3}, {3}, {-3}, {98}};
        String[] texts = {"1", "1<<3", "8>>2", "2+3", "5-2", "~0", "2*3", "8/4", "9%2", "7&3", "1|2", "-3", "'a'+1"};
        for (int k = 0; k < texts.length; k++) {
            Check.due(texts[k], Check.number(Check.good(".word " + texts[k]), 0, 52, 4), want[k][0]);
        }
        Check.due("5^6", Check.number(Check.good(".word 5^6"), 0, 52, 4), 3);
        Check.due("-~-1", Check.number(Check.good(".word -~-1"), 0, 52, 4), 0);
        Check.due("(1)<<(2)", Check.number(Check.good(".word (1)<<(2)"), 0, 52, 4), 4);
        Check.good("a:b:1:2:nop#x\n\tlw\ta0\t,\t4\t(\ta1\t)\t\n lw a0,4(a1)\nlui a0,%hi(x)\n lui a0 , % hi ( x )");
        Check.good("1:j 1b#\n2 : 3\t: nop");
        Check.good(".asciz\"a\"\n.byte'a','b'");
    }

    /** LABELS, the WORD and the OPERANDS of a line. */
    private static void lines() {
        Check.good("a: b: 1: 2: c: nop");
        Check.good("a:\n1:\n");
        Check.fault("12: nop", 5, 0);
        Check.fault("00: nop", 5, 0);
        Check.fault("1: 22: nop", 5, 3);
        Check.fault("1", 5, 1);
        Check.fault("1\n:", 5, 1);
        Check.fault("nop: 7", 5, 6);
        Check.fault("nop:7 nop", 5, 6);
        Check.fault("a0:", 5, 2);
        Check.fault("x31 :", 5, 4);
        Check.fault("a: fp:", 5, 5);
        Check.fault(":", 5, 0);
        Check.fault("a: :", 5, 3);
        Check.fault("nop nop: nop", 5, 7);
        Check.fault("nop 1: nop", 5, 5);
        Check.fault("a, b", 5, 1);
        Check.fault("nop a,", 5, 6);
        Check.fault("nop a,\n", 5, 6);
        Check.fault("nop a,,b", 5, 6);
        Check.fault("nop ,a", 5, 4);
        Check.fault("nop a b", 5, 6);
        Check.fault("nop a0 a1", 5, 7);
        Check.fault("nop \"a\" 1", 5, 8);
        Check.fault("nop (a0) 1", 5, 9);
        Check.fault("nop %hi(x) 1", 5, 11);
        Check.fault("nop %hi(x)(a0) 1", 5, 15);
        Check.fault("nop 4(a0)+1", 5, 9);
        Check.fault("nop (a0)(a1)", 5, 8);
        Check.fault("nop (a0", 5, 7);
        Check.fault("nop (a0\n", 5, 7);
        Check.fault("nop (a0,", 5, 7);
        Check.fault("nop 4(", 5, 6);
        Check.fault("nop 4()", 5, 6);
        Check.fault("nop 4(4)", 5, 6);
        Check.fault("nop 4(.)", 5, 6);
        Check.fault("nop 4(x)", 5, 6);
        Check.fault("nop 4((a0))", 5, 6);
        Check.fault("nop ((a0))", 6, 6);
        Check.fault("nop (4)(a0)+", 5, 11);
        Check.fault("nop %", 5, 5);
        Check.fault("nop %1", 5, 5);
        Check.fault("nop %hi", 5, 7);
        Check.fault("nop %hi x", 5, 8);
        Check.fault("nop %hi(", 5, 8);
        Check.fault("nop %hi()", 5, 8);
        Check.fault("nop %hi(x", 5, 9);
        Check.fault("nop %hi(x,", 5, 9);
        Check.fault("nop %hi(%lo(x))", 5, 8);
        Check.fault("nop 1+%hi(x)", 5, 6);
        Check.fault("nop %hi(\"a\")", 5, 8);
        Check.fault("nop %hi((a0))", 6, 9);
        Check.fault("nop %hi(4(a0))", 5, 9);
        for (String mark : "hii lo_ pcrel pcrel_h pcrel_hix pcrel_lo1 HI a0 . zero pcrel_hi.".split(" ")) {
            Check.fault("nop %" + mark + "(x)", 6, 5);
            Check.fault("nop % " + mark, 6, 6);
        }
        for (String mark : "hi lo pcrel_hi pcrel_lo".split(" ")) {
            Check.fault("nop %" + mark + "(x)", 12, 0);
        }
    }

    /** 7: 20 deep may be, 21 not; what is closed again is not deep any more. */
    private static void depths() {
        for (String one : new String[] {"(", "-", "~"}) {
            String close = one.equals("(") ? ")" : "";
            Check.good(".word " + times(19, one) + "1" + times(19, close));
            Check.fault(".word " + times(20, one) + "1" + times(20, close), 7, 26);
            Check.fault(".word " + times(20, one) + "x", 7, 26);
            Check.fault(".word " + times(20, one) + ".", 7, 26);
            Check.fault("1: .word " + times(20, one) + "1b", 7, 29);
            Check.fault(".word " + times(20, one) + "'a'", 7, 26);
            for (String next : new String[] {"(", "-", "~"}) {
                Check.fault(".word " + times(20, one) + next, 7, 26);
            }
            Check.good(".word " + times(19, one) + "1" + times(19, close) + "+" + times(19, one) + "1" + times(19, close));
            Check.fault(".word 1+" + times(20, one) + "1", 7, 28);
            Check.good(".equ s, 1\n.word " + times(19, one) + "s" + times(19, close));
        }
        Check.good(".word (1)" + times(29, "+(1)"));
        Check.good(".word -1" + times(18, "+-1") + "+(1)");
        Check.good(".word -(1)" + times(14, "+~(1)"));
        Check.good(".word " + times(10, "(") + "1" + times(10, ")") + "*" + times(10, "-(").substring(0, 19) + "1" + times(9, ")"));
        Check.fault(".word " + times(10, "-(") + "1", 7, 26);
        // the parentheses of a MARKED one and of a MEMORY make nothing deeper
        Check.good("lw a0, %lo(" + times(19, "(") + "1" + times(19, ")") + ")(a0)");
        Check.good("lw a0, " + times(19, "(") + "1" + times(19, ")") + "(a0)");
        Check.fault("lw a0, %lo(" + times(20, "(") + "1", 7, 31);
        Check.fault("lw a0, " + times(20, "(") + "1", 7, 27);
        // each EXPRESSION begins at 1 again
        Check.good(".word " + times(19, "(") + "1" + times(19, ")") + "," + times(19, "-") + "1");
    }

    /** 8: 400 STATEMENTS may be, 401 not. */
    private static void statements() {
        String full = times(399, ".data\n");
        Check.good(full + ".text");
        Check.good(full + "z:");
        Check.good(full + "1:");
        for (String last : new String[] {"z:", "1:", ".text", "frob", "a0", "z :", ".data 5"}) {
            Check.fault(full + "y: " + last, 8, full.length() + 3);
        }
        Check.fault(times(400, "1:") + "2:", 8, 800);
        Check.fault(times(400, "1:") + "nop", 8, 800);
        Check.good(times(99, "1:") + times(301, "\n.text"));
        Check.fault(times(99, "1:") + times(302, "\n.text"), 8, 99 * 2 + 301 * 6 + 1);
        // a line without a LABEL and a WORD is none
        Check.good(times(400, "\n.text\n") + "\n #\n");
    }

    /** 8: 800 operands may be, 801 not; each sort of operand counts when its first word is read. */
    private static void operands() {
        String full = "\n.byte " + times(398, "1,") + "1";
        String text = (full + full).substring(1) + "\n.byte 1,";
        int at = text.length();
        Check.good(text + "2");
        Check.fault(text + "2,", 5, at + 2);
        for (String last : new String[] {"3", "a0", "\"s\"", "(a0)", "4(a0)", "-3", "~3", "%hi(x)", "(3)", "'a'", ".", "x", "1b"}) {
            Check.fault(text + "2," + last, 8, at + 2);
        }
        Check.fault(text + "2,@", 1, at + 2);
        Check.fault(text + "2," + TOO_LONG, 2, at + 2);
        Check.fault(text + "2,0x", 3, at + 2);
        Check.fault(text + "2,'", 4, at + 2);
        Check.fault(text + "2,)", 5, at + 2);
        Check.fault(text + "2,:", 5, at + 2);
        Check.fault(text + "2,*", 5, at + 2);
        Check.fault(text + "2\nj x", 8, at + 4);
    }

    /** 8: an EXPRESSION of 60 ITEMS may be, the 61st not. */
    private static void itemsOfOne() {
        // 59 items: 30 operands and 29 operators
        String most = "1" + times(29, "+1");
        int at = 6 + most.length();
        Check.good(".word " + most);
        Check.good(".word -" + most);
        Check.fault(".word " + most + "+1", 8, at + 1);
        Check.fault(".word -" + most + "+1", 8, at + 1);
        Check.fault(".word -" + most + "*1", 8, at + 1);
        Check.fault(".word ~" + most + "<<1", 8, at + 1);
        // the 60th is an operator, the 61st each sort of operand, or - or ~ ahead of one
        for (String last : new String[] {"1", "x", ".", "1b", "7f", "'a'", "-1", "~1", "s"}) {
            Check.fault(".word " + most + "+" + last, 8, at + 1);
        }
        // parentheses are no ITEMS
        Check.fault(".word " + most + "+(1)", 8, at + 2);
        Check.fault(".word " + most + "+)", 5, at + 1);
        Check.fault(".word " + most + "+a0", 6, at + 1);
        Check.fault(".word " + most + "+@", 1, at + 1);
        Check.fault(".word " + most + "+", 5, at + 1);
        Check.good(".word ((" + most + "))");
        // of a MEMORY and of a MARKED one, too
        Check.fault("lw a0, " + most + "+1(a0)", 8, at + 2);
        Check.fault("lw a0, -" + most + "+1(a0)", 8, at + 2);
        Check.fault("lw a0, %lo(" + most + "+1)(a0)", 8, at + 6);
        Check.good("lw a0, -" + most + "(a0)\nlw a0, %lo(-" + most + ")(a0)\nlw a0, (a0)");
        // 60 more behind 60
        Check.good(".word -" + most + ", -" + most + "\nlw a0, (a0)\nlw a0, -" + most + "(a0)");
        // at one place with 7: the least number
        Check.fault(".word " + most + "+" + times(20, "(") + "1", 7, at + 21);
        Check.fault(".word " + most + "+" + times(19, "(") + "1", 8, at + 20);
        Check.fault(".word " + most + "+" + times(20, "(") + "-", 7, at + 21);
        Check.fault(".word " + most + "+" + times(19, "(") + "-", 8, at + 20);
    }

    /** 8: 2000 ITEMS may be, the 2001st not; each sort of it. */
    private static void items() {
        // 50 times 40 items
        String forty = times(19, "1-") + "-1";
        String most = "\n.word " + forty + times(8, "," + forty);
        most = times(5, most).substring(1);
        most = most + "\n.word " + forty + times(3, "," + forty);
        int rest = 2000 - 49 * 40;
        Check.due("items that may come", rest, 40);
        int at = most.length();
        Check.good(most + "," + forty);
        Check.good(most + "," + forty + "\nnop\nmv a0, a1\n.ascii \"\"");
        for (String last : new String[] {"1", "x", ".", "7f", "-1", "~1", "'a'"}) {
            Check.fault(most + "," + forty + "," + last, 8, at + 42);
        }
        Check.fault(most + "," + forty + "\nlw a0, (a0)", 8, at + 1 + 40 + 1 + 7);
        Check.fault(most + "," + forty + "\nlw a0, %lo(1)(a0)", 8, at + 1 + 40 + 1 + 11);
        Check.fault(most + "," + forty + "+1", 8, at + 41);
        Check.fault(most + "," + forty + "-", 8, at + 41);
        // the 2000th is the number 0 of a MEMORY
        String less = times(19, "1-") + "1";
        Check.good(most + "," + less + "\nlw a0, (a0)");
        Check.fault(most + "," + less + "\nlw a0, (a0)\nlw a0, (a0)", 8, at + 1 + 39 + 1 + 12 + 7);
    }

    /** 8: 150 names may be, the 151st not: as a label, as a WORD and in an EXPRESSION. */
    private static void nameNumbers() {
        StringBuilder s = new StringBuilder();
        for (int k = 0; k < 148; k++) {
            s.append(k % 15 == 0 ? "\n.byte " : ",").append("n").append(k).append("-n").append(k);
        }
        String most = s.substring(1);
        int at = most.length();
        // 148 of them and .byte; 100 symbols come at most, but that is asked later
        Check.fault(most, 18, most.lastIndexOf('\n', most.indexOf("n100")) + 1);
        for (String one : new String[] {"z:", "frob", ".word 1", "x0"}) {
            Check.fault(most + "\nn1: " + one + "\n@", 1, at + 6 + one.length());
            Check.fault(most + "-n1\nz: " + (one.equals("z:") ? "zz:" : one), 8, at + 7);
        }
        Check.fault(most + ",z\n@", 1, at + 3);
        Check.fault(most + ",z,zz", 8, at + 3);
        Check.fault(most + ",z,z,n3,n147,zz", 8, at + 13);
        // registers, marks and HERE are not numbered
        Check.fault(most + ",z,a0,.,%hi(n1),%pcrel_lo(.),4(s1)\n@", 1, at + 35);
        Check.fault(most + ",z\n.byte 1\nz: n5: nop", 8, at + 18);
    }

    /** Of several FAULTS at one place the least number counts. */
    private static void leastNumbers() {
        Check.fault("nop " + TOO_LONG, 2, 4);
        Check.fault("nop 1 0x", 3, 6);
        Check.fault("nop 1 '", 4, 6);
        Check.fault("nop 1 @", 1, 6);
        Check.fault(".word -a0", 6, 7);
        Check.fault(".word " + times(20, "-") + "a0", 6, 26);
        Check.fault(".word " + times(20, "-") + ",", 5, 26);
        Check.fault(".word " + times(20, "-"), 5, 26);
        Check.fault(".word " + times(20, "-") + "0x", 3, 26);
        Check.fault(".word " + times(20, "-") + "'", 4, 26);
        Check.fault(".word " + times(20, "-") + TOO_LONG, 2, 26);
        // the first from the left, whatever its number
        Check.fault("nop ,\n@", 5, 4);
        Check.fault("nop -a0 @", 6, 5);
        Check.fault("0x\n@", 3, 0);
        Check.fault("nop 'ab' @", 4, 4);
        Check.fault(TOO_LONG + " @", 2, 0);
        // those of the TEXT ahead of those of section 7
        Check.fault("frob\n@", 1, 5);
        Check.fault("frob\n nop ,", 5, 10);
    }

    private static void value(String expression, int want) {
        ChainHouse x = Check.good(".word " + expression);
        Check.due("value of " + expression, Check.number(x, 0, 52, 4), want);
    }

    /** What binds how strongly, within parentheses and ahead of one; values that wrap. */
    private static void binding() {
        String[] signs = {"|", "^", "&", "<<", ">>", "+", "-", "*", "/", "%"};
        int[] rank = {0, 1, 2, 3, 3, 4, 4, 5, 5, 5};
        int[][] numbers = {{7, 3, 2}, {100, 9, 4}, {-5, 3, 1}};
        for (int[] n : numbers) {
            for (int p = 0; p < 10; p++) {
                for (int q = 0; q < 10; q++) {
                    int left = worked(q, worked(p, n[0], n[1]), n[2]);
                    value("(" + n[0] + signs[p] + n[1] + ")" + signs[q] + n[2], left);
                    String text = n[0] + signs[p] + n[1] + signs[q] + n[2];
                    int inner = worked(q, n[1], n[2]);
                    if (p >= 8 && inner == 0) {
                        Check.fault(".word " + n[0] + signs[p] + "(" + n[1] + signs[q] + n[2] + ")", 14, 6);
                        value(text, left);
                        continue;
                    }
                    int right = worked(p, n[0], inner);
                    value(text, rank[p] >= rank[q] ? left : right);
                    value(n[0] + signs[p] + "(" + n[1] + signs[q] + n[2] + ")", right);
                }
            }
        }
        value("-(2)+3", 1);
        value("-(2)*3", -6);
        value("~(2)+3", 0);
        value("-2+3", 1);
        value("~2+3", 0);
        value("-~(1)-1", 1);
        value("(((-(((1))))))", -1);
        value("5/1", 5);
        value("5%1", 0);
        value("0/5", 0);
        value("-2147483648/-1", -2147483648);
        value("-2147483648%-1", 0);
        value("-2147483648/1", -2147483648);
        value("2147483647+1", -2147483648);
        value("-2147483648-1", 2147483647);
        value("65536*65536", 0);
        value("-(-2147483648)", -2147483648);
        value("1<<31", -2147483648);
        value("1<<32", 1);
        value("1<<63", -2147483648);
        value("-1>>31", 1);
        value("-1>>32", -1);
        value("-1>>-1", 1);
        Check.fault(".word 1/0", 14, 6);
        Check.fault(".word 1%0", 14, 6);
        Check.fault(".word 0/(1-1)", 14, 6);
        Check.fault(".word -2147483648%(0)", 14, 6);
    }

    private static int worked(int sign, int x, int y) {
        switch (sign) {
            case 0: return x | y;
            case 1: return x ^ y;
            case 2: return x & y;
            case 3: return x << y;
            case 4: return x >>> y;
            case 5: return x + y;
            case 6: return x - y;
            case 7: return x * y;
            case 8: return x / y;
            default: return x % y;
        }
    }

    /** Each TEXT is read from nothing: names, operands, ITEMS and STATEMENTS of the one ahead don't count. */
    private static void again() {
        ChainHouse x = new ChainHouse();
        for (int k = 0; k < 3; k++) {
            StringBuilder s = new StringBuilder();
            for (int n = 0; n < 90; n++) {
                s.append((char) ('p' + k)).append(n).append(":");
            }
            Check.due("90 names", Check.assemble(x, 0, s.toString()) > 0, true);
        }
        x = new ChainHouse();
        String bytes = "\n.byte " + times(399, "1,") + "1";
        for (int k = 0; k < 2; k++) {
            Check.due("800 operands", Check.assemble(x, 0, (bytes + bytes).substring(1)) > 0, true);
        }
        x = new ChainHouse();
        String statements = times(400, ".text\n");
        Check.due("400 STATEMENTS", Check.assemble(x, 0, statements) > 0, true);
        Check.due("1 STATEMENT", Check.assemble(x, 0, "nop") > 0, true);
        x = new ChainHouse();
        String sixty = "-1" + times(29, "+1");
        for (int k = 0; k < 3; k++) {
            Check.due("960 ITEMS", Check.assemble(x, 0, ".word " + sixty + times(15, "," + sixty)) > 0, true);
        }
        Check.due("a fault", Check.assemble(x, 0, "nop @"), Check.ARGUMENT);
        Check.due("its number", x.fault(0), 1);
        Check.due("its place", x.fault(1), 4);
        Check.due("nothing", Check.assemble(x, 1, "") > 0, true);
        Check.due("no number", x.fault(0), 0);
        Check.due("no place", x.fault(1), -1);
        Check.due("bytes of the text", "nop @".getBytes(StandardCharsets.ISO_8859_1).length, 5);
    }
}
