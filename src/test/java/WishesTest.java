/** Promises 20 to 24: feed, trim, wish, of, missed. */
public final class WishesTest {
    private static final int BAD = ChipFloor.BAD, FULL = ChipFloor.FULL, NONE = ChipFloor.NONE;
    private static final Due due = new Due();

    public static void main(String[] args) {
        feed();
        trim();
        bytesComeHighestFirst();
        texts();
        faults();
        fullAfterTen();
        wishIsReadOnce();
        values();
        namesOfAll();
        namesOfBlocks();
        blocksThatThereAreNot();
        refusals();
        missed();
        due.end();
    }

    private static ChipFloor two() {
        ChipFloor x = new ChipFloor();
        x.block(0, 4, 3);
        x.block(0, 2, 5);
        return x;
    }

    private static void feed() {
        ChipFloor x = new ChipFloor();
        for (int i = 1; i <= 8; i++) {
            due.is("20: feed", x.feed(1, 2, 3), 12 * i);
        }
        due.is("20: the ninth", x.feed(1, 2, 3), FULL);
        due.is("20: 96 stay", x.count(8), 96);
        x.trim(85);
        due.is("20: 85 and 12 are too many", x.feed(1, 2, 3), FULL);
        x.trim(84);
        due.is("20: 84 and 12 are not", x.feed(1, 2, 3), 96);
    }

    private static void trim() {
        ChipFloor x = new ChipFloor();
        due.is("21: none", x.trim(0), 0);
        due.is("21: more than none", x.trim(1), BAD);
        x.feed(0, 0, 0);
        due.is("21: -1", x.trim(-1), BAD);
        due.is("21: 13", x.trim(13), BAD);
        due.is("21: all", x.trim(12), 12);
        due.is("21: five", x.trim(5), 5);
        due.is("21: six of five", x.trim(6), BAD);
        due.is("21: tape", x.count(8), 5);
    }

    private static void bytesComeHighestFirst() {
        ChipFloor x = two();
        x.feed(0x616c6c20, 0x77202b20, 0x68202020);
        due.is("20: all w + h", x.wish(), 0);
        due.is("20: its E", x.of(0, 3), 6 + 5);
        x.feed(0x616c6ce1, 0, 0);
        due.is("20: bytes above 127 are signs", x.wish(), -103);
        x.feed(0xe16c6c20, 0, 0);
        due.is("20: first byte above 127", x.wish(), -100);
    }

    private static void texts() {
        String[] read = {
            "all w", "  all  w  ", "all(w)", "all 1", "all 0000", "all 9999", "block 0 x", "block 7 g", "block 3(x)", "block 3!x",
            "all!w", "all w|h&l<u+1*2", "all w=1&h=2|l>3&u<4", "all 1+2-3*4/5", "all ((((((((w))))))))", "all !!!!!!!!w",
            "all ((((((((w))))))))+((((((((h))))))))", "all !!!!!!!!w&!!!!!!!!h", "all !(!(!(!(!(!(!(!(w))))))))",
            "block 0 x y z".substring(0, 9), "all (w<h)<l", "all !(w)", "block 5 x+y*w-h/p|t&g", "all w < h & w = h | l > u",
        };
        for (String text : read) {
            due.is("22: \"" + text + "\"", Due.wish(two(), text), 0);
        }
        String long96 = "all 1" + "+1".repeat(45) + " ";
        due.is("22: 96 bytes", Due.wish(two(), long96), 0);
    }

    private static void fault(String text, int place) {
        ChipFloor x = two();
        due.is("22: \"" + text + "\"", Due.wish(x, text), -100 - place);
        due.is("22: \"" + text + "\" is no wish", x.count(2), 0);
        due.is("22: \"" + text + "\" is used up", x.count(8), 0);
    }

    private static void faults() {
        fault("", 0);
        fault("   ", 3);
        fault("al", 0);
        fault("alll w", 0);
        fault("allw", 0);
        fault("abc w", 0);
        fault("lla w", 0);
        fault("all wz", 4);
        fault("all 1z", 5);
        fault("all 1`", 5);
        fault("all 1{", 5);
        fault("all 1:", 5);
        fault("blocc 1 x", 0);
        fault("clock 1 x", 0);
        fault("All w", 0);
        fault("w", 0);
        fault("7", 0);
        fault("(w)", 0);
        fault("all", 3);
        fault("all   ", 6);
        fault("all1", 3);
        fault("all 1w", 5);
        fault("all w1", 5);
        fault("all w h", 6);
        fault("all 1 2", 6);
        fault("all x", 4);
        fault("all p", 4);
        fault("all ww", 4);
        fault("all all", 4);
        fault("all W", 4);
        fault("all 12345", 4);
        fault("all w+00001", 6);
        fault("all +w", 4);
        fault("all -1", 4);
        fault("all w-", 6);
        fault("all w--1", 6);
        fault("all w<", 6);
        fault("all w<h<l", 7);
        fault("all w=h>l", 7);
        fault("all w<=h", 6);
        fault("all w&", 6);
        fault("all w&&h", 6);
        fault("all w||h", 6);
        fault("all w|", 6);
        fault("all w!", 5);
        fault("all !", 5);
        fault("all ()", 5);
        fault("all (", 5);
        fault("all (w", 6);
        fault("all (w  ", 8);
        fault("all (w h)", 7);
        fault("all w)", 5);
        fault("all (w))", 7);
        fault("all w(h)", 5);
        fault("all w\0", 5);
        fault("all\tw", 3);
        fault("all w.", 5);
        fault("all w%2", 5);
        fault("block", 5);
        fault("block 3", 7);
        fault("block 3 ", 8);
        fault("block3 x", 5);
        fault("block 3x", 7);
        fault("block 8 x", 6);
        fault("block 9 x", 6);
        fault("block 00 x", 6);
        fault("block 12 x", 6);
        fault("block x", 6);
        fault("block (1) x", 6);
        fault("block 1 l", 8);
        fault("block 1 u", 8);
        fault("block 1 block", 8);
        fault("block 1 2 3", 10);
        fault("all (((((((((w)))))))))", 12);
        fault("all !!!!!!!!!w", 12);
        fault("all !(!(!(!(!(!(!(!(!w))))))))", 20);
        fault("all (!(!(!(!(!(!(!(!(w)))))))))", 20);
        fault("all ((((((((w))))))))+(((((((((w)))))))))", 30);
        fault("all !!!!!!!!w&!!!!!!!!!w", 22);
    }

    private static void fullAfterTen() {
        ChipFloor x = two();
        for (int i = 0; i < 10; i++) {
            due.is("22: number", Due.wish(x, "all " + i), i);
        }
        due.is("22: the eleventh", Due.wish(x, "all 5"), FULL);
        due.is("22: the tape is used up", x.count(8), 0);
        due.is("22: a fault ahead of FULL", Due.wish(x, "all 5)"), -105);
        for (int i = 0; i < 10; i++) {
            due.is("22: the ten stay", x.of(i, 3), i);
        }
        due.is("22: ten", x.count(2), 10);
    }

    private static void wishIsReadOnce() {
        ChipFloor x = two();
        due.is("22: wish", Due.wish(x, "all w"), 0);
        due.is("22: again", x.wish(), -100);
        due.is("22: one", x.count(2), 1);
    }

    private static void value(String e, int value, int operands) {
        ChipFloor x = two();
        String text = "all " + e;
        due.is("22: \"" + text + "\"", Due.wish(x, text), 0);
        due.is("23: block of \"" + text + "\"", x.of(0, 0), 8);
        due.is("23: operands of \"" + text + "\"", x.of(0, 1), operands);
        due.is("23: \"" + text + "\" is met", x.of(0, 2), value != 0 ? 1 : 0);
        due.is("23: \"" + text + "\"", x.of(0, 3), value);
        due.is("40: met", x.count(3), value != 0 ? 1 : 0);
    }

    private static void values() {
        value("7", 7, 1);
        value("0", 0, 1);
        value("0012", 12, 1);
        value("1+2*3", 7, 3);
        value("(1+2)*3", 9, 3);
        value("9-4-3", 2, 3);
        value("9-(4-3)", 8, 3);
        value("100/7/2", 7, 3);
        value("100/(7/2)", 33, 3);
        value("7*3/2", 10, 3);
        value("7/2*3", 9, 3);
        value("(0-7)/2", -3, 3);
        value("5/0", 0, 2);
        value("5/0+1", 1, 3);
        value("(2-2)/(1-1)", 0, 4);
        value("3<4", 1, 2);
        value("4<4", 0, 2);
        value("4=4", 1, 2);
        value("4=5", 0, 2);
        value("5>4", 1, 2);
        value("4>4", 0, 2);
        value("0-5<3", 1, 3);
        value("1+1=2", 1, 3);
        value("(3>2)+(3>1)", 2, 4);
        value("5&3", 1, 2);
        value("5&0", 0, 2);
        value("0&5", 0, 2);
        value("0|0", 0, 2);
        value("0|7", 1, 2);
        value("7|0", 1, 2);
        value("1|0&0", 1, 3);
        value("(1|0)&0", 0, 3);
        value("0&0|1", 1, 3);
        value("1&2=2", 1, 3);
        value("!0", 1, 1);
        value("!5", 0, 1);
        value("!!5", 1, 1);
        value("!0+1", 2, 2);
        value("!0*3", 3, 2);
        value("!(0+1)", 0, 2);
        value("!5=0", 1, 2);
        value("9999*9999*99", 9999 * 9999 * 99, 3);
        value("(8*8*8*8*8*8*8*8*8*8*8*0+1)", 1, 13);
        value("8*8*8*8*8*8*8*8*8*8*2/(0-1)", Integer.MIN_VALUE, 13);
        value("8*8*8*8*8*8*8*8*8*8*2-1", Integer.MAX_VALUE, 12);
        value("4096*4096*256", 0, 3);
    }

    private static void namesOfAll() {
        ChipFloor x = two();
        x.net(3, 4);
        Due.wish(x, "all w");
        Due.wish(x, "all h");
        Due.wish(x, "all l");
        Due.wish(x, "all u");
        due.is("23: w", x.of(0, 3), 6);
        due.is("23: h", x.of(1, 3), 5);
        // middles (4, 3), (10, 5)
        due.is("23: l", x.of(2, 3), 4 * (6 + 2));
        due.is("23: u", x.of(3, 3), 30 - 12 - 10);
        x.move(0, 0, 1);
        due.is("23: w as it is now", x.of(0, 3), 4);
        due.is("23: h as it is now", x.of(1, 3), 8);
    }

    private static void namesOfBlocks() {
        ChipFloor x = two();
        x.move(0, 0, 1);
        // 0 at (0, 0) 4 by 3; 1 above it at (0, 3) 2 by 5
        x.power(0, 5);
        x.power(1, 9);
        String names = "xywhptg";
        int[] values = {0, 3, 2, 5, 9, 41, 2};
        for (int i = 0; i < 7; i++) {
            due.is("22: name", Due.wish(x, "block 1 " + names.charAt(i)), i);
            due.is("23: " + names.charAt(i), x.of(i, 3), values[i]);
            due.is("23: BLOCK", x.of(i, 0), 1);
            due.is("23: B does not count", x.of(i, 1), 1);
        }
        x.move(0, 0, 1);
        due.is("23: x as it is now", x.of(0, 3), 4);
        due.is("23: y as it is now", x.of(1, 3), 0);
    }

    private static void blocksThatThereAreNot() {
        ChipFloor x = two();
        due.is("22: of none", Due.wish(x, "block 2 1"), 0);
        due.is("23: not met", x.of(0, 2), 0);
        due.is("23: 0", x.of(0, 3), 0);
        due.is("23: BLOCK", x.of(0, 0), 2);
        due.is("23: operands", x.of(0, 1), 1);
        due.is("24: missed", x.missed(), 0);
        x.block(0, 1, 1);
        due.is("23: met then", x.of(0, 2), 1);
        due.is("24: none missed", x.missed(), NONE);
    }

    private static void refusals() {
        ChipFloor x = two();
        due.is("23: no wish", x.of(0, 0), BAD);
        Due.wish(x, "all 1");
        due.is("23: wish -1", x.of(-1, 0), BAD);
        due.is("23: wish 1", x.of(1, 0), BAD);
        due.is("23: what -1", x.of(0, -1), BAD);
        due.is("23: what 4", x.of(0, 4), BAD);
    }

    private static void missed() {
        ChipFloor x = two();
        due.is("24: no wishes", x.missed(), NONE);
        Due.wish(x, "all w<9");
        due.is("24: all met", x.missed(), NONE);
        Due.wish(x, "all h>7");
        Due.wish(x, "block 0 p");
        due.is("24: the first", x.missed(), 1);
        due.is("40: met", x.count(3), 1);
        x.move(0, 0, 1);
        due.is("24: the next", x.missed(), 2);
        x.power(0, 1);
        due.is("24: all met then", x.missed(), NONE);
        due.is("40: met", x.count(3), 3);
    }
}
