/** Promises 20 to 24: feed, trim, wish, of, missed. */
final class EdgesOfWishes {
    private static final int BAD = ChipFloor.BAD, FULL = ChipFloor.FULL, NONE = ChipFloor.NONE;
    private static final int LEAST = Edges.LEAST, MOST = Edges.MOST;
    private final Edges e;

    EdgesOfWishes(Edges e) {
        this.e = e;
    }

    void all() {
        feed();
        bytes();
        trim();
        tenWishes();
        usedUp();
        heads();
        namesOfAll();
        namesOfBlocks();
        numbers();
        signs();
        loosestFirst();
        words();
        everyByte();
        faultsOfPlace();
        faultsOfDepth();
        end();
        ofRefused();
        ofEach();
        ofTextsBehindOthers();
        wrap();
        divide();
        truth();
        ofBlocksThatThereAreNot();
        missed();
    }

    /** Two blocks side by side: 4 by 3, 2 by 5. */
    private static ChipFloor two() {
        return Edges.with(0, 4, 3, 0, 2, 5);
    }

    private void read(String text) {
        e.is("wish of \"" + text + "\"", Due.wish(two(), text), 0);
    }

    private void fault(int place, String text) {
        ChipFloor x = two();
        e.is("wish of \"" + text + "\"", Due.wish(x, text), -100 - place);
        e.due(0, x, "count", 2);
        e.due(0, x, "count", 8);
    }

    private void gives(int value, String text) {
        ChipFloor x = two();
        e.is("wish of \"" + text + "\"", Due.wish(x, text), 0);
        e.is("E of \"" + text + "\"", x.of(0, 3), value);
        e.is("MET of \"" + text + "\"", x.of(0, 2), value != 0 ? 1 : 0);
    }

    private void feed() {
        e.says(20, "Twelve bytes come to THE TAPE, the highest of each number first: how many it has. FULL: it would have more than 96.");
        ChipFloor x = new ChipFloor();
        for (int i = 1; i <= 8; i++) {
            e.due(12 * i, x, "feed", LEAST, -1, MOST);
        }
        e.due(FULL, x, "feed", 0, 0, 0);
        e.due(96, x, "count", 8);
        e.refused(FULL, States::full, "feed", 0x20202020, 0x20202020, 0x20202020);
        for (int n = 83; n <= 96; n++) {
            ChipFloor y = States.full();
            y.trim(n);
            e.due(n <= 84 ? n + 12 : FULL, y, "feed", 0, 0, 0);
            e.due(n <= 84 ? n + 12 : n, y, "count", 8);
        }
        e.refused(FULL, () -> {
            ChipFloor y = States.full();
            y.trim(85);
            return y;
        }, "feed", 0, 0, 0);
        e.due(12, new ChipFloor(), "feed", 0, 0, 0);
    }

    private void bytes() {
        e.says(20, "Twelve bytes come to THE TAPE, the highest of each number first");
        // each byte by itself: a digit 1 .. 9 at each of the places behind "all"
        for (int place = 3; place < 12; place++) {
            ChipFloor x = two();
            int[] v = {0x616c6c20, 0x20202020, 0x20202020};
            int shift = 24 - place % 4 * 8;
            v[place / 4] = v[place / 4] & ~(255 << shift) | '5' << shift;
            x.feed(v[0], v[1], v[2]);
            e.due(place == 3 ? -103 : 0, x, "wish");
        }
        for (int place = 0; place < 12; place++) {
            int[] v = {0x616c6c20, 0x77202020, 0x20202020};
            v[place / 4] |= 0x80 << 24 - place % 4 * 8;
            ChipFloor x = two();
            x.feed(v[0], v[1], v[2]);
            // a byte above 127 is a sign; within a word what stands ahead of it is another word
            e.due(place < 3 ? -100 : -100 - place, x, "wish");
        }
        ChipFloor x = two();
        x.feed(0x616c6c20, 0x31323334, 0x20202b20);
        x.feed(0x35202020, 0, 0);
        x.trim(16);
        e.due(0, x, "wish");
        e.due(1239, x, "of", 0, 3);
    }

    private void trim() {
        e.says(21, "THE TAPE keeps its first n bytes: n. BAD.");
        for (int n : new int[] {-1, 97, LEAST, MOST}) {
            e.refusedInAllStates(BAD, "trim", n);
        }
        e.refused(BAD, States::fresh, "trim", 1);
        e.refused(BAD, States::some, "trim", 6);
        e.due(0, new ChipFloor(), "trim", 0);
        e.due(96, States.full(), "trim", 96);
        e.due(0, States.full(), "trim", 0);
        ChipFloor x = new ChipFloor();
        x.feed(0, 0, 0);
        e.due(BAD, x, "trim", 13);
        e.due(12, x, "trim", 12);
        e.due(11, x, "trim", 11);
        e.due(BAD, x, "trim", 12);
        e.due(11, x, "count", 8);
        e.due(0, x, "trim", 0);
        e.due(BAD, x, "trim", 1);
        // what comes then comes behind the bytes that were kept
        ChipFloor y = two();
        y.feed(0x616c6c20, 0x35393939, 0x39393939);
        y.trim(5);
        y.feed(0x2b362020, 0x20202020, 0x20202020);
        e.due(0, y, "wish");
        e.due(11, y, "of", 0, 3);
    }

    private void tenWishes() {
        e.says(22, "WISHES are TEXTS, 10 at most, numbered from 0 in their order");
        ChipFloor x = two();
        for (int i = 0; i < 10; i++) {
            e.is("wish " + i, Due.wish(x, "all " + (90 + i)), i);
            e.due(i + 1, x, "count", 2);
        }
        e.is("the eleventh wish", Due.wish(x, "all 5"), FULL);
        e.due(10, x, "count", 2);
        for (int i = 0; i < 10; i++) {
            e.due(90 + i, x, "of", i, 3);
        }
        e.says(22, "THE TAPE is a WISH: its number. -100 less the place of its FAULT; FULL.");
        e.refused(FULL, () -> Edges.taped(States.full(), "all w"), "wish");
        e.refused(FULL, States::full, "wish");
        e.refused(-105, () -> Edges.taped(States.full(), "all w)"), "wish");
        e.refused(-100, () -> Edges.taped(States.full(), ""), "wish");
        e.refused(-104, () -> Edges.taped(States.some(), "all x"), "wish");
        e.refused(-196, () -> Edges.taped(States.some(), " ".repeat(96)), "wish");
        e.refused(-100, States::fresh, "wish");
    }

    private void usedUp() {
        e.says(22, "from THE TAPE (96 bytes at most; an act that reads it uses it up, whatever it answers)");
        ChipFloor x = two();
        int[] answers = {0, -104, 1, -100};
        String[] texts = {"all w", "all x", "block 7 g", ""};
        for (int i = 0; i < 4; i++) {
            Due.tape(x, texts[i]);
            e.due(answers[i], x, "wish");
            e.due(0, x, "count", 8);
            e.due(-100, x, "wish");
        }
        ChipFloor full = States.full();
        e.due(96, full, "count", 8);
        e.due(FULL, full, "wish");
        e.due(0, full, "count", 8);
        e.due(12, full, "feed", 0, 0, 0);
        // a text that is read behind a faulty one is read from its own beginning
        ChipFloor behind = two();
        String[] faulty = {"all x", "all 12345", "7", "x", "all w 7", "all w x", "all w+", "all (w", "block 9 x", "block 1x", "", "  ", "all !!!!!!!!!w", "all ((((((((("};
        for (int i = 0; i < faulty.length; i++) {
            int answer = Due.wish(two(), faulty[i]);
            Due.tape(behind, faulty[i]);
            e.due(answer, behind, "wish");
            Due.tape(behind, i % 2 == 0 ? "all 1" : "block 0 1");
            e.due(i < 10 ? i : FULL, behind, "wish");
            if (i < 10) {
                e.due(1, behind, "of", i, 3);
                e.due(1, behind, "of", i, 1);
            }
        }
        String longest = "all 1" + "+1".repeat(45) + " ";
        e.is("bytes", longest.length(), 96);
        gives(46, longest);
        fault(96, "all 1" + "+1".repeat(45) + "+");
        fault(95, "all 1" + "+1".repeat(45) + ")");
        gives(7, " ".repeat(91) + "all 7");
        gives(7, "all" + " ".repeat(92) + "7");
    }

    private void heads() {
        e.says(22, "all E | block B E (B: one digit 0 .. 7)");
        for (int b = 0; b <= 9; b++) {
            if (b <= 7) {
                read("block " + b + " 1");
            } else {
                fault(6, "block " + b + " 1");
            }
            fault(6, "block " + b + "0 1");
            fault(6, "block 0" + b + " 1");
        }
        fault(0, "al 1");
        fault(0, "alll 1");
        fault(0, "All 1");
        fault(0, "alm 1");
        fault(0, "bll 1");
        fault(0, "akl 1");
        fault(0, "bloc 1 1");
        fault(0, "blocks 1 1");
        fault(0, "clock 1 1");
        fault(0, "blocj 1 1");
        fault(0, "a 1");
        fault(0, "1");
        fault(0, "!1");
        fault(0, "(all 1)");
        fault(6, "block block");
        fault(6, "block x 1");
        fault(6, "block (1) 1");
        fault(6, "block -1 1");
        fault(4, "all all 1");
        fault(4, "all block 1 x");
        fault(8, "block 1 all");
    }

    private void namesOfAll() {
        e.says(22, "NAMES, each one letter: of all w THE WIDTH, h THE HEIGHT, l WIRES, u WASTE");
        for (char c = 'a'; c <= 'z'; c++) {
            if ("whlu".indexOf(c) >= 0) {
                read("all " + c);
                fault(4, "all " + c + c);
                fault(4, "all " + (char) (c - 32));
            } else {
                fault(4, "all " + c);
            }
        }
        ChipFloor x = two();
        x.net(3, 4);
        int[] values = {6, 5, 4 * (6 + 2), 30 - 12 - 10};
        for (int i = 0; i < 4; i++) {
            Due.wish(x, "all " + "whlu".charAt(i));
            e.due(values[i], x, "of", i, 3);
        }
        ChipFloor none = new ChipFloor();
        for (int i = 0; i < 4; i++) {
            Due.wish(none, "all " + "whlu".charAt(i));
            e.due(0, none, "of", i, 3);
        }
    }

    private void namesOfBlocks() {
        e.says(22, "of block x, y, w WIDTH, h HEIGHT, p POWER, t HEAT, g GROWS");
        for (char c = 'a'; c <= 'z'; c++) {
            if ("xywhptg".indexOf(c) >= 0) {
                read("block 0 " + c);
                fault(8, "block 0 " + c + c);
                fault(8, "block 0 " + (char) (c - 32));
            } else {
                fault(8, "block 0 " + c);
            }
        }
        ChipFloor x = two();
        x.move(0, 0, 1);
        x.power(0, 5);
        x.power(1, 9);
        // 1 above 0: at (0, 3), 2 of the 4 wide
        int[] values = {0, 3, 2, 5, 9, 36 + 5, 2};
        for (int i = 0; i < 7; i++) {
            Due.wish(x, "block 1 " + "xywhptg".charAt(i));
            e.due(values[i], x, "of", i, 3);
        }
        ChipFloor full = States.full();
        full.back();
        for (int b = 0; b < 8; b++) {
            e.due(b, Edges.taped(full, "block " + b + " p"), "wish");
            e.due(2 * b + 1, full, "of", b, 3);
        }
    }

    private void numbers() {
        e.says(22, "PIECE: NUMBER (1 to 4 digits) | NAME | ! PIECE | ( E )");
        String[] numbers = {"0", "9", "00", "99", "000", "999", "0000", "9999", "0001", "1000", "1234"};
        for (String number : numbers) {
            gives(Integer.parseInt(number), "all " + number);
            gives(Integer.parseInt(number), "block 0 (" + number + ")");
        }
        for (String number : new String[] {"00000", "10000", "99999", "00001", "123456", "12345678901234567890"}) {
            fault(4, "all " + number);
            fault(6, "all 1+" + number);
        }
        gives(1, "all !0");
        gives(0, "all !1");
        gives(5, "all (5)");
        fault(5, "all ()");
        fault(5, "all !)");
        fault(4, "all )");
    }

    private void signs() {
        e.says(22, "TEST: SUM [ (< | = | >) SUM ]; SUM: TERM { (+ | -) TERM }; TERM: PIECE { (* | /) PIECE }");
        for (char one : "<=>+-*/&|".toCharArray()) {
            read("all 1" + one + "2");
            fault(6, "all 1" + one);
            fault(4, "all " + one + "1");
            for (char other : "<=>+-*/&|".toCharArray()) {
                fault(6, "all 1" + one + other + "1");
                boolean tests = "<=>".indexOf(one) >= 0 && "<=>".indexOf(other) >= 0;
                if (tests) {
                    fault(7, "all 1" + one + "2" + other + "3");
                    read("all (1" + one + "2)" + other + "3");
                    read("all 1" + one + "(2" + other + "3)");
                    read("all 1" + one + "2&3" + other + "4");
                    read("all 1" + one + "2|3" + other + "4");
                    fault(9, "all 1" + one + "2+3" + other + "4");
                } else {
                    read("all 1" + one + "2" + other + "3");
                }
            }
        }
    }

    private void loosestFirst() {
        e.says(22, "E, the loosest first: OR: AND { | AND }; AND: TEST { & TEST }");
        gives(1, "all 1|0&0");
        gives(0, "all (1|0)&0");
        gives(1, "all 0&0|1");
        gives(0, "all 0&(0|1)");
        gives(1, "all 2&2=2");
        gives(0, "all (2&2)=2");
        gives(1, "all 1<1+1");
        gives(2, "all (1<2)+1");
        gives(7, "all 1+2*3");
        gives(9, "all (1+2)*3");
        gives(2, "all 9-4-3");
        gives(8, "all 9-(4-3)");
        gives(3, "all 24/4/2");
        gives(12, "all 24/(4/2)");
        gives(9, "all 7/2*3");
        gives(3, "all !0*3");
        gives(2, "all !0+1");
        gives(0, "all !(0+1)");
        gives(1, "all !5=0");
        gives(0, "all !(5=4+1)");
    }

    private void words() {
        e.says(22, "Between words and signs, and at the ends, there may be blanks (byte 32); a word right behind another one needs one.");
        read("all 1");
        read("   all   1   ");
        read("all(1)");
        read("all!1");
        read("all!(!w)");
        read("block 1(x)");
        read("block   1   !   x   ");
        read("all ( 1 + 2 ) * ! 3");
        fault(3, "all1");
        fault(5, "block1 x");
        fault(7, "block 1x");
        fault(5, "all w1");
        fault(5, "all 1w");
        fault(6, "all w 1");
        fault(6, "all w h");
        fault(6, "all 1 2");
        fault(6, "all 1 w");
        fault(9, "all w    1");
        fault(7, "all (1)1");
        fault(7, "all (1)w");
        fault(7, "all (1)(1)");
        fault(5, "all w(1)");
        fault(5, "all 1!1");
        fault(3, "all\t1");
        fault(3, "all\n1");
        fault(5, "all 1\t");
        fault(0, "\tall 1");
        e.says(22, "A word is a row of letters a .. z, or of digits, as long as it goes; any other byte is a sign by itself.");
        fault(0, "allw");
        fault(0, "al l 1");
        fault(4, "all wh");
        fault(4, "all hw1");
        fault(5, "all wA");
        fault(0, "aLl 1");
        fault(0, "\u00e1ll 1");
    }

    /** Every byte behind a name, and ahead of a number. */
    private void everyByte() {
        e.says(22, "any other byte is a sign by itself");
        for (int c = 0; c < 256; c++) {
            char sign = (char) c;
            boolean letter = c >= 'a' && c <= 'z';
            boolean digit = c >= '0' && c <= '9';
            String behind = "all w" + sign + "1";
            if ("<=>+-*/&|".indexOf(sign) >= 0) {
                read(behind);
            } else {
                fault(letter ? 4 : c == ' ' ? 6 : 5, behind);
            }
            String ahead = "all " + sign + "1";
            if (digit || c == ' ' || c == '!') {
                read(ahead);
            } else {
                boolean name = letter && "whlu".indexOf(sign) >= 0;
                fault(c == '(' ? 6 : name ? 5 : 4, ahead);
            }
            String last = "all w" + sign;
            if (c == ' ') {
                read(last);
            } else {
                fault(letter ? 4 : "<=>+-*/&|".indexOf(sign) >= 0 ? 6 : 5, last);
            }
        }
    }

    private void faultsOfPlace() {
        e.says(22, "FAULT: the first byte of the first word or sign with which no TEXT goes on");
        fault(0, "x");
        fault(2, "  x all");
        fault(4, "all x+y+z");
        fault(6, "all w+x+y");
        fault(7, "all w+ x");
        fault(8, "all w + x");
        fault(8, "block 0 u");
        fault(10, "block 0 x l");
        fault(5, "all w.1");
        fault(5, "all w%2");
        fault(6, "all w<=h");
        fault(6, "all w&&h");
        fault(6, "all w||h");
        fault(6, "all w--1");
        fault(4, "all -1");
        fault(4, "all +1");
        fault(5, "all 1)");
        fault(7, "all (1))");
        fault(7, "all (1 2)");
        e.says(22, "(a word that needs a blank ahead of it, a B of more than one digit or above 7, a NUMBER of more than 4 digits");
        fault(3, "all12345");
        fault(6, "block 12345 x");
        fault(6, "block 8x");
        fault(6, "block 71x");
        fault(4, "all 12345w");
        fault(5, "all 1x2345");
    }

    private void faultsOfDepth() {
        e.says(22, "the ninth ( that would be open within others, the ninth ! likewise, each by itself)");
        for (int deep = 1; deep <= 12; deep++) {
            String opens = "(".repeat(deep), closes = ")".repeat(deep), nots = "!".repeat(deep);
            if (deep <= 8) {
                gives(6, "all " + opens + "w" + closes);
                gives(deep % 2, "all " + nots + "0");
                gives(12, "all " + opens + "w" + closes + "+" + opens + "w" + closes);
                gives(2 * (deep % 2), "all " + nots + "0+" + nots + "0");
                gives(deep % 2, "all " + opens + nots + "0" + closes);
                gives(deep % 2, "all " + nots + opens + "0" + closes);
                gives(deep % 2, "all " + "!(".repeat(deep) + "0" + closes);
                gives(deep % 2, "all " + "(!".repeat(deep) + "0" + closes);
            } else {
                fault(12, "all " + opens + "w" + closes);
                fault(12, "all " + nots + "w");
                fault(30, "all ((((((((w))))))))+" + opens + "w" + closes);
                fault(22, "all !!!!!!!!w&" + nots + "w");
                fault(20, "all " + "!(".repeat(deep) + "0" + closes);
                fault(20, "all " + "(!".repeat(deep) + "0" + closes);
            }
        }
        // those that are closed are not counted
        gives(1, "all " + "!0&".repeat(20) + "1");
        gives(20, "all " + "(1)+".repeat(19) + "1");
        gives(8, "all " + "((1)+".repeat(7) + "1" + ")".repeat(7));
        fault(40, "all " + "((1)+".repeat(8) + "1" + ")".repeat(8));
        fault(13, "all ((((((((!(w)))))))))");
        fault(20, "all !!!!!!!!((((((((!w))))))))");
        fault(20, "all ((((((((!!!!!!!!(w)))))))))");
        // behind every sign those around it still count, and those of the side ahead of it don't
        String signs = "|&<=>+-*/";
        int[] given = {1, 1, 0, 0, 1, 8, 4, 12, 3};
        for (int i = 0; i < signs.length(); i++) {
            char sign = signs.charAt(i);
            gives(given[i], "all (((((((w" + sign + "(2))))))))");
            gives(given[i], "all ((((((((w)" + sign + "(2))))))))");
            fault(14, "all ((((((((w" + sign + "(2)))))))))");
            fault(16, "all ((((((((w " + sign + " (2)))))))))");
            gives(sign == '=' ? 0 : 1, "all !!!!!!!(!1" + sign + "!1)");
            fault(15, "all !!!!!!!!(1" + sign + "!1)");
            fault(16, "all !!!!!!!(!1" + sign + "!!1)");
        }
    }

    private void end() {
        e.says(22, "the end (the place behind the last byte), if it comes too soon");
        String[] texts = {"", " ", "all", "all ", "block", "block ", "block 3", "block 3 ", "all (", "all (w", "all (w ", "all !", "all w+", "all w + ", "all w<", "all w&", "all w|",
            "all w*", "all ((w)", "all (w|", " ".repeat(95), " ".repeat(96), "all" + " ".repeat(93)};
        for (String text : texts) {
            fault(text.length(), text);
        }
    }

    private void ofRefused() {
        e.says(23, "3 what its E gives (0 of a BLOCK that there is not). BAD.");
        for (int wish : new int[] {-1, 10, LEAST, MOST}) {
            e.refusedInAllStates(BAD, "of", wish, 0);
        }
        for (int what : new int[] {-1, 4, LEAST, MOST}) {
            e.refused(BAD, States::some, "of", 1, what);
            e.refused(BAD, States::full, "of", 9, what);
        }
        e.refused(BAD, States::fresh, "of", 0, 0);
        e.refused(BAD, States::some, "of", 2, 0);
        e.due(8, States.full(), "of", 8, 0);
        e.due(1, States.full(), "of", 9, 0);
        ChipFloor back = two();
        back.keep();
        Due.wish(back, "all 1");
        back.back();
        e.due(BAD, back, "of", 0, 0);
    }

    private void ofEach() {
        e.says(23, "Of a WISH: what 0 its BLOCK (8: all), 1 how many NUMBERS and NAMES it has (B not), 2 whether it is MET (1, 0)");
        ChipFloor x = two();
        String[] texts = {"all 1", "block 0 1", "block 7 x", "all w+1*h", "block 1 !x&(2|y)", "all 1" + "+1".repeat(45)};
        int[] blocks = {8, 0, 7, 8, 1, 8};
        int[] operands = {1, 1, 1, 3, 3, 46};
        for (int i = 0; i < texts.length; i++) {
            Due.wish(x, texts[i]);
            e.due(blocks[i], x, "of", i, 0);
            e.due(operands[i], x, "of", i, 1);
        }
        int[] met = {1, 1, 0, 1, 0, 1};
        for (int i = 0; i < met.length; i++) {
            e.due(met[i], x, "of", i, 2);
        }
        // as it is now
        Due.wish(x, "all w=6");
        e.due(1, x, "of", 6, 2);
        x.move(0, 0, 1);
        e.due(0, x, "of", 6, 2);
    }

    private void ofTextsBehindOthers() {
        e.says(23, "1 how many NUMBERS and NAMES it has (B not), 2 whether it is MET (1, 0), 3 what its E gives");
        String[] texts = {"all 7", "all !0", "all !!7", "all 7+!0", "all 7+8", "all !(7+8)", "all 7+8*9", "all !7+!!8", "block 0 w", "block 0 !x", "block 1 !w", "block 1 w*!y"};
        int[] given = {7, 1, 1, 8, 15, 0, 79, 1, 4, 1, 0, 2};
        int[] operands = {1, 1, 1, 2, 2, 2, 3, 2, 1, 1, 1, 2};
        for (int i = 0; i < texts.length; i++) {
            for (int j = 0; j < texts.length; j++) {
                ChipFloor x = two();
                Due.wish(x, texts[i]);
                // the longer one has a fault at its end, and stays no wish
                Due.wish(x, texts[i] + "+");
                Due.wish(x, texts[j]);
                int[] are = {i, j};
                for (int wish = 0; wish < 2; wish++) {
                    e.due(operands[are[wish]], x, "of", wish, 1);
                    e.due(given[are[wish]] != 0 ? 1 : 0, x, "of", wish, 2);
                    e.due(given[are[wish]], x, "of", wish, 3);
                }
                e.due((given[i] != 0 ? 1 : 0) + (given[j] != 0 ? 1 : 0), x, "count", 3);
            }
        }
    }

    private void wrap() {
        e.says(23, "Ints wrap");
        gives(MOST, "all 8*8*8*8*8*8*8*8*8*8*2-1");
        gives(LEAST, "all 8*8*8*8*8*8*8*8*8*8*2");
        gives(LEAST, "all 8*8*8*8*8*8*8*8*8*8*2-1+1");
        gives(MOST, "all 0-8*8*8*8*8*8*8*8*8*8*2-1");
        gives(0, "all 4096*4096*256");
        gives(9999 * 9999 * 99, "all 9999*9999*99");
        gives(LEAST, "all 8*8*8*8*8*8*8*8*8*8*2/(0-1)");
        gives(LEAST, "all 0-8*8*8*8*8*8*8*8*8*8*2");
        gives(1, "all 8*8*8*8*8*8*8*8*8*8*2<0");
        gives(1, "all 8*8*8*8*8*8*8*8*8*8*2-1>0");
        gives(1, "all 8*8*8*8*8*8*8*8*8*8*2<8*8*8*8*8*8*8*8*8*8*2-1");
    }

    private void divide() {
        e.says(23, "/ is 0 by 0");
        gives(0, "all 5/0");
        gives(0, "all 0/0");
        gives(0, "all (0-5)/0");
        gives(1, "all 5/0+1");
        gives(0, "all 5/(w-6)");
        gives(5, "all 5/(w-5)");
        gives(-5, "all 5/(w-7)");
        gives(0, "all 7/0/0");
        e.says(23, "All numbers are whole; / cuts towards 0.");
        gives(3, "all 7/2");
        gives(-3, "all (0-7)/2");
        gives(-3, "all 7/(0-2)");
        gives(3, "all (0-7)/(0-2)");
        gives(0, "all 6/7");
        gives(0, "all (0-6)/7");
        gives(1, "all 7/7");
        gives(-1, "all (0-7)/7");
        gives(-1, "all (0-13)/7");
        gives(-2, "all (0-14)/7");
    }

    private void truth() {
        e.says(23, "tests, & | ! give 1 or 0 (what is not 0 is true; both sides are worked out)");
        int[][] sides = {{0, 0}, {0, 1}, {1, 0}, {1, 1}, {2, 5}, {5, 2}, {-1, 0}, {0, -1}, {-1, -1}, {-2, 3}, {9999, 9999}};
        for (int[] s : sides) {
            String l = s[0] < 0 ? "(0-" + -s[0] + ")" : "" + s[0], r = s[1] < 0 ? "(0-" + -s[1] + ")" : "" + s[1];
            gives(s[0] < s[1] ? 1 : 0, "all " + l + "<" + r);
            gives(s[0] == s[1] ? 1 : 0, "all " + l + "=" + r);
            gives(s[0] > s[1] ? 1 : 0, "all " + l + ">" + r);
            gives(s[0] != 0 && s[1] != 0 ? 1 : 0, "all " + l + "&" + r);
            gives(s[0] != 0 || s[1] != 0 ? 1 : 0, "all " + l + "|" + r);
            gives(s[0] == 0 ? 1 : 0, "all !" + l);
            gives(s[0] != 0 ? 1 : 0, "all !!" + l);
        }
        gives(0, "all 0&5/0");
        gives(1, "all 1|5/0");
        e.says(23, "A WISH is MET, if its E is not 0");
        gives(-1, "all 0-1");
        gives(LEAST, "all 8*8*8*8*8*8*8*8*8*8*2");
        gives(0, "all 0");
        gives(0, "all 1-1");
    }

    private void ofBlocksThatThereAreNot() {
        e.says(23, "that of a BLOCK that there is not is not MET");
        ChipFloor x = new ChipFloor();
        for (int b = 0; b < 8; b++) {
            Due.wish(x, "block " + b + " 5");
        }
        for (int many = 0; many <= 8; many++) {
            for (int b = 0; b < 8; b++) {
                e.due(b < many ? 5 : 0, x, "of", b, 3);
                e.due(b < many ? 1 : 0, x, "of", b, 2);
            }
            e.due(many, x, "count", 3);
            e.due(many < 8 ? many : NONE, x, "missed");
            x.block(0, 1, 1);
        }
        ChipFloor not = new ChipFloor();
        Due.wish(not, "block 0 !0");
        e.due(0, not, "of", 0, 3);
        e.due(0, not, "of", 0, 0);
        e.due(1, not, "of", 0, 1);
    }

    private void missed() {
        e.says(24, "The first WISH that is not MET. NONE.");
        e.refused(NONE, States::fresh, "missed");
        for (int first = 0; first <= 10; first++) {
            ChipFloor x = new ChipFloor();
            for (int i = 0; i < 10; i++) {
                Due.wish(x, i < first ? "all 1" : "all 0");
            }
            e.due(first < 10 ? first : NONE, x, "missed");
            e.due(first, x, "count", 3);
        }
        ChipFloor x = new ChipFloor();
        Due.wish(x, "all 0");
        Due.wish(x, "all 1");
        e.due(0, x, "missed");
        Due.wish(x, "block 0 1");
        e.due(0, x, "missed");
    }
}
