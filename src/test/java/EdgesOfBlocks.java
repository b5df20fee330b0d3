/** Promises 1 to 8: a new object, block, told, as, power, rule, net, wire. */
final class EdgesOfBlocks {
    private static final int BAD = ChipFloor.BAD, FULL = ChipFloor.FULL, NO = ChipFloor.NO, NONE = ChipFloor.NONE;
    private static final int NOTHING = ChipFloor.NOTHING, KIND = ChipFloor.KIND;
    private static final int LEAST = Edges.LEAST, MOST = Edges.MOST;
    private static final int[][] KINDS_ABOVE = {{0}, {0, 1}, {0, 2}, {0, 2, 3}, {0, 1, 4}, {0, 5}};
    private final Edges e;

    EdgesOfBlocks(Edges e) {
        this.e = e;
    }

    void all() {
        constants();
        newObject();
        atFirst();
        calls512();
        objectsByThemselves();
        blocks();
        newBlocks();
        toldWhats();
        shapes();
        rooms();
        worths();
        places();
        heats();
        liesOver();
        grows();
        as();
        power();
        rules();
        nets();
        wireRefused();
        wires();
        wiresOfLayers();
        guesses();
    }

    private void constants() {
        e.says(1, "BAD = -1000000001, NO = -1000000002, FULL = -1000000003, SPENT = -1000000004, NONE = -1000000005, NOTHING = -1000000011, KIND = -1000000012, INDEX = -1000000013, SIZE = -1000000014");
        int[] are = {ChipFloor.BAD, ChipFloor.NO, ChipFloor.FULL, ChipFloor.SPENT, ChipFloor.NONE, ChipFloor.NOTHING, ChipFloor.KIND, ChipFloor.INDEX, ChipFloor.SIZE};
        int[] want = {1, 2, 3, 4, 5, 11, 12, 13, 14};
        for (int i = 0; i < are.length; i++) {
            e.is("constant " + i, are[i], -1000000000 - want[i]);
        }
    }

    private void newObject() {
        e.says(1, "As told; no BLOCKS.");
        ChipFloor x = new ChipFloor();
        for (int what = 0; what <= 8; what++) {
            e.due(0, x, "count", what);
        }
        for (int what = 0; what < 5; what++) {
            e.due(0, x, "whole", what);
            e.due(BAD, x, "move", what, 0, 0);
        }
        for (int row = 0; row < 2; row++) {
            e.due(BAD, x, "at", row, 0);
            e.due(BAD, x, "best", row, 0);
        }
        e.due(BAD, x, "told", 0, 0);
        e.due(BAD, x, "as", 0, 0);
        e.due(BAD, x, "power", 0, 0);
        e.due(BAD, x, "wire", 0, 0);
        e.due(BAD, x, "stands", 0, 1);
        e.due(BAD, x, "touch", 0, 1);
        e.due(BAD, x, "of", 0, 0);
        e.due(BAD, x, "stowed", 0, 0);
        e.due(BAD, x, "lay", 0, 1, 0);
        e.due(NONE, x, "hottest");
        e.due(NONE, x, "missed");
        e.due(0, x, "front");
        e.due(NO, x, "undo");
        e.due(NO, x, "walk", 1, 0);
        e.due(NO, x, "back");
        e.due(NO, x, "check", 1);
        e.due(-100, x, "wish");
    }

    private void atFirst() {
        String[] words = {"2 times POSTS (0 .. 9; 1 at first)", "AREA (0 .. 9; 1 at first)", "LENGTH (0 .. 9; 1 at first)",
            "OUT (0 .. 99; 9 at first)", "EDGE (1 .. 240; 60 at first)"};
        int[] first = {1, 1, 1, 9, 60};
        for (int what = 0; what < 5; what++) {
            e.says(1, words[what]);
            e.due(first[what], new ChipFloor(), "rule", what, 5);
        }
        e.says(1, "(an int; told, 1 at first)");
        e.due(1, new ChipFloor(), "count", 9);
        e.due(1, new ChipFloor(), "seed", 5);
        e.says(1, "or MISSING (at first)");
        for (int sheet = 0; sheet < 4; sheet++) {
            e.due(NOTHING, new ChipFloor(), "mark", sheet, 0, 0);
        }
        e.says(1, "SLOTS 0 .. 4 each hold nothing (at first)");
        for (int slot = 0; slot < 5; slot++) {
            e.due(NOTHING, new ChipFloor(), "rest", slot, 1);
            e.due(0, new ChipFloor(), "lay", slot, 0, 0);
        }
    }

    private void calls512() {
        e.says(1, "An object is used for at most 512 calls after it has been made");
        ChipFloor x = new ChipFloor();
        int calls = 0;
        for (; calls < 8; calls++) {
            x.block(calls % 6, 30, 30);
        }
        for (; calls < 18; calls++) {
            x.net(255, 9);
        }
        int z = 1;
        for (; calls < 511; calls++) {
            x.walk(200, 9999);
            for (int i = 0; i < 200; i++) {
                z = z * 1103515245 + 12345;
            }
        }
        e.due(z, x, "count", 9);
        ChipFloor y = Edges.with(0, 2, 1, 0, 2, 1, 0, 1, 2, 0, 1, 1);
        for (calls = 4; calls < 512; calls++) {
            e.due(8, y, "bound", 3);
        }
        ChipFloor m = Edges.with(2, 3, 3);
        for (calls = 1; calls < 511; calls++) {
            m.move(3, 0, 0);
        }
        e.due(510 % 6, m, "told", 0, 5);
        e.due(19, m, "undo");
    }

    private void objectsByThemselves() {
        e.says(1, "As told; no BLOCKS.");
        States.full();
        ChipFloor x = States.fresh();
        e.is("a new object beside a full one", View.LAYING.of(x).get(0), 0);
        ChipFloor y = States.full();
        e.is("a full object beside a new one", View.LAYING.of(y).get(0), 8);
    }

    private void blocks() {
        e.says(2, "BLOCKS, 8 at most, numbered from 0");
        ChipFloor x = new ChipFloor();
        for (int i = 0; i < 8; i++) {
            e.due(i, x, "block", i % 6, 1 + i, 30 - i);
            e.due(i + 1, x, "count", 0);
        }
        for (int kind = 0; kind < 6; kind++) {
            e.refused(FULL, States::full, "block", kind, 1, 30);
        }
        e.says(2, "of KINDS: 0 BLOCK; 1 HARD, 2 SOFT, 5 CUT, under BLOCK; 3 FAMILY, under SOFT; 4 FIXED, under HARD");
        for (int kind = 0; kind < 6; kind++) {
            ChipFloor y = new ChipFloor();
            e.due(0, y, "block", kind, 1, 1);
            e.due(kind, y, "told", 0, 0);
        }
        for (int kind : new int[] {-1, 6, LEAST, MOST}) {
            e.refusedInAllStates(BAD, "block", kind, 1, 1);
        }
        e.says(2, "each with numbers a and b (1 .. 30 each)");
        for (int kind = 0; kind < 6; kind++) {
            ChipFloor y = new ChipFloor();
            e.due(0, y, "block", kind, 1, 30);
            e.due(1, y, "block", kind, 30, 1);
            e.due(2, y, "block", kind, 1, 1);
            e.due(3, y, "block", kind, 30, 30);
            e.due(30, y, "told", 0, 2);
            e.due(30, y, "told", 1, 1);
            for (int out : new int[] {0, 31, -1, LEAST, MOST}) {
                e.due(BAD, y, "block", kind, out, 1);
                e.due(BAD, y, "block", kind, 1, out);
            }
            e.due(4, y, "count", 0);
        }
        for (int out : new int[] {0, 31}) {
            e.refusedInAllStates(BAD, "block", 0, out, 30);
            e.refusedInAllStates(BAD, "block", 0, 30, out);
        }
    }

    private void newBlocks() {
        e.says(2, "a POWER 0 .. 99 (0 at first), a LAYER 0 or 1 (0 at first), and a SHAPE 0 .. 5 (0 at first");
        ChipFloor x = Edges.with(0, 2, 2);
        x.keep();
        for (int again = 0; again < 2; again++) {
            e.due(1, x, "block", 2, 3, 4);
            int[] first = {2, 3, 4, 0, 0, 0, 3, 4};
            for (int what = 0; what < 8; what++) {
                e.due(first[what], x, "told", 1, what);
            }
            x.power(1, 99);
            x.move(4, 1, 0);
            x.move(3, 1, 0);
            // the number comes to another block behind this
            x.back();
        }
        e.says(2, "(a new one comes behind all in both)");
        ChipFloor y = Edges.with(0, 1, 1);
        for (int i = 1; i < 8; i++) {
            y.move(0, 0, i - 1);
            y.move(1, 0, i - 1);
            e.due(i, y, "block", 0, 1, 1);
            e.due(i, y, "at", 0, i);
            e.due(i, y, "at", 1, i);
        }
        e.says(2, "One more BLOCK: its number (nothing can be undone then). BAD; FULL.");
        ChipFloor u = Edges.with(0, 1, 1, 0, 2, 2);
        u.move(0, 0, 1);
        u.move(1, 1, 1);
        e.due(2, u, "count", 5);
        e.due(BAD, u, "block", 0, 1, 31);
        e.due(2, u, "count", 5);
        e.due(2, u, "block", 0, 1, 30);
        e.due(0, u, "count", 5);
        e.due(NO, u, "undo");
        e.due(1, u, "at", 0, 0);
        e.refused(BAD, States::full, "block", 6, 31, 31);
    }

    private void toldWhats() {
        e.says(3, "Of a BLOCK: what 0 KIND, 1 a, 2 b, 3 POWER, 4 LAYER, 5 SHAPE, 6 WIDTH, 7 HEIGHT, 8 ROOM, 9 WORTH, 10 X, 11 Y, 12 how many SHAPES it has, 13 HEAT, 14 GROWS. BAD.");
        ChipFloor x = Edges.with(0, 7, 5);
        int[] want = {0, 7, 5, 0, 0, 0, 7, 5, 35, 35, 0, 0, 1, 0, 0};
        for (int what = 0; what < 15; what++) {
            e.due(want[what], x, "told", 0, what);
        }
        int[] unlike = {2, 10, 9, 50, 1, 3, 13, 7, 90, 87, 12, 14, 6, 205, 4};
        ChipFloor y = toldUnlike();
        for (int what = 0; what < 15; what++) {
            e.due(unlike[what], y, "told", 2, what);
        }
        for (int what : new int[] {-1, 15, LEAST, MOST}) {
            e.refusedInAllStates(BAD, "told", 0, what);
        }
        for (int block : new int[] {-1, 8, LEAST, MOST}) {
            e.refusedInAllStates(BAD, "told", block, 0);
        }
        e.refused(BAD, States::fresh, "told", 0, 0);
        e.refused(BAD, States::some, "told", 3, 0);
        e.due(2, States.some(), "told", 2, 2);
        e.due(1, States.full(), "told", 7, 0);
    }

    /** Of its block 2 no two answers are alike: 0 is LEFT of it, 1 BELOW it, and 3, on the other LAYER, makes THE WIDTH. */
    private static ChipFloor toldUnlike() {
        ChipFloor x = Edges.with(0, 12, 1, 0, 1, 14, 2, 10, 9, 0, 29, 1);
        x.power(1, 5);
        x.power(2, 50);
        x.move(0, 1, 2);
        for (int block = 0; block < 3; block++) {
            x.move(4, block, 0);
            x.move(3, 2, 0);
        }
        return x;
    }

    /** Kind, a, b, then the width and height of each shape. */
    private void shapesAre(int... row) {
        int many = (row.length - 3) / 2;
        ChipFloor x = Edges.with(row[0], row[1], row[2]);
        e.due(many, x, "told", 0, 12);
        for (int turn = 0; turn <= many; turn++) {
            int s = turn % many;
            e.due(s, x, "told", 0, 5);
            e.due(row[3 + 2 * s], x, "told", 0, 6);
            e.due(row[4 + 2 * s], x, "told", 0, 7);
            x.move(3, 0, 0);
        }
        ChipFloor y = Edges.with(row[0], row[1], row[2]);
        y.move(3, 0, 0);
        y.undo();
        e.due(0, y, "told", 0, 5);
    }

    private void shapes() {
        e.says(3, "BLOCK: 0: a, b.");
        shapesAre(0, 1, 30, 1, 30);
        shapesAre(0, 30, 1, 30, 1);
        e.says(3, "HARD: as BLOCK, and 1: b, a.");
        shapesAre(1, 1, 30, 1, 30, 30, 1);
        shapesAre(1, 30, 1, 30, 1, 1, 30);
        shapesAre(1, 4, 4, 4, 4, 4, 4);
        e.says(3, "SOFT: s 0 .. 5: WIDTH a + s, HEIGHT: a times b by that, up.");
        shapesAre(2, 1, 1, 1, 1, 2, 1, 3, 1, 4, 1, 5, 1, 6, 1);
        shapesAre(2, 30, 30, 30, 30, 31, 30, 32, 29, 33, 28, 34, 27, 35, 26);
        shapesAre(2, 1, 30, 1, 30, 2, 15, 3, 10, 4, 8, 5, 6, 6, 5);
        shapesAre(2, 30, 1, 30, 1, 31, 1, 32, 1, 33, 1, 34, 1, 35, 1);
        shapesAre(2, 5, 6, 5, 6, 6, 5, 7, 5, 8, 4, 9, 4, 10, 3);
        e.says(3, "FAMILY: as SOFT, but 0 .. 4 alone, and HEIGHT 1 more for 3 and 4.");
        shapesAre(3, 1, 1, 1, 1, 2, 1, 3, 1, 4, 2, 5, 2);
        shapesAre(3, 30, 30, 30, 30, 31, 30, 32, 29, 33, 29, 34, 28);
        shapesAre(3, 1, 30, 1, 30, 2, 15, 3, 10, 4, 9, 5, 7);
        e.says(3, "FIXED: 0 alone, as BLOCK.");
        shapesAre(4, 1, 30, 1, 30);
        shapesAre(4, 30, 1, 30, 1);
        e.says(3, "CUT: as BLOCK, and 1: WIDTH b, HEIGHT a; 2: WIDTH a + 1, HEIGHT b less 1, if b is above 1 (else there is no 2).");
        shapesAre(5, 1, 1, 1, 1, 1, 1);
        shapesAre(5, 30, 1, 30, 1, 1, 30);
        shapesAre(5, 30, 2, 30, 2, 2, 30, 31, 1);
        shapesAre(5, 1, 2, 1, 2, 2, 1, 2, 1);
        shapesAre(5, 30, 30, 30, 30, 30, 30, 31, 29);
    }

    private void toldInShapes(ChipFloor x, int what, int... want) {
        for (int v : want) {
            e.due(v, x, "told", 0, what);
            x.move(3, 0, 0);
        }
    }

    private void rooms() {
        e.says(3, "ROOM of a BLOCK: BLOCK: WIDTH times HEIGHT. SOFT: a times b. FAMILY: as SOFT, and 1. CUT: as BLOCK, less 1.");
        toldInShapes(Edges.with(0, 1, 1), 8, 1);
        toldInShapes(Edges.with(0, 30, 30), 8, 900);
        toldInShapes(Edges.with(2, 1, 1), 8, 1, 1, 1, 1, 1, 1);
        toldInShapes(Edges.with(2, 30, 30), 8, 900, 900, 900, 900, 900, 900);
        toldInShapes(Edges.with(3, 1, 1), 8, 2, 2, 2, 2, 2);
        toldInShapes(Edges.with(3, 30, 30), 8, 901, 901, 901, 901, 901);
        toldInShapes(Edges.with(5, 1, 1), 8, 0, 0);
        toldInShapes(Edges.with(5, 1, 2), 8, 1, 1, 1);
        toldInShapes(Edges.with(5, 30, 30), 8, 899, 899, 898);
        e.says(3, "(A KIND that is not named does as the one above it.)");
        toldInShapes(Edges.with(1, 1, 30), 8, 30, 30);
        toldInShapes(Edges.with(4, 30, 30), 8, 900);
        ChipFloor cut = Edges.with(5, 2, 6);
        cut.power(0, 99);
        toldInShapes(cut, 9, 11, 11, 14);
        ChipFloor family = Edges.with(3, 1, 1);
        family.power(0, 99);
        toldInShapes(family, 9, 2, 1, 0, -1, -2);
    }

    private void worths() {
        e.says(3, "WORTH of a BLOCK: BLOCK: ROOM. HARD: as BLOCK, and POWER. SOFT: as BLOCK, less SHAPE. FIXED: as HARD, twice.");
        for (int power : new int[] {0, 1, 99}) {
            int[][] rows = {{0, 900}, {1, 900 + power, 900 + power}, {2, 900, 899, 898, 897, 896, 895}, {4, 1800 + 2 * power}};
            for (int[] row : rows) {
                ChipFloor x = Edges.with(row[0], 30, 30);
                x.power(0, power);
                toldInShapes(x, 9, java.util.Arrays.copyOfRange(row, 1, row.length));
            }
        }
        toldInShapes(Edges.with(2, 1, 1), 9, 1, 0, -1, -2, -3, -4);
    }

    private void stand(ChipFloor x, int... places) {
        for (int i = 0; i < places.length; i++) {
            e.due(places[i], x, "told", i / 2, 10 + i % 2);
        }
    }

    private void places() {
        e.says(3, "X of a BLOCK: the greatest of X and WIDTH together of all that are LEFT of it, 0 without any; Y likewise by BELOW and HEIGHT.");
        stand(Edges.with(0, 30, 30), 0, 0);
        ChipFloor row = new ChipFloor();
        ChipFloor pile = new ChipFloor();
        for (int i = 0; i < 8; i++) {
            row.block(0, 30, 1);
            pile.block(0, 1, 30);
        }
        for (int i = 0; i < 4; i++) {
            pile.move(0, i, 7 - i);
        }
        for (int i = 0; i < 8; i++) {
            e.due(30 * i, row, "told", i, 10);
            e.due(0, row, "told", i, 11);
            e.due(0, pile, "told", i, 10);
            e.due(30 * i, pile, "told", i, 11);
        }
        // 0 and 1 are both LEFT of 2, 0 BELOW 1: the wider of them tells
        ChipFloor x = Edges.with(0, 4, 2, 0, 5, 2, 0, 1, 1);
        x.move(0, 0, 1);
        stand(x, 0, 0, 0, 2, 5, 0);
        ChipFloor y = Edges.with(0, 5, 2, 0, 4, 2, 0, 1, 1);
        y.move(0, 0, 1);
        stand(y, 0, 0, 0, 2, 5, 0);
        // 0 and 1 are both BELOW 2, 0 LEFT of 1: the higher of them tells
        ChipFloor v = Edges.with(0, 2, 4, 0, 2, 5, 0, 1, 1);
        v.move(0, 0, 2);
        v.move(0, 1, 2);
        stand(v, 0, 0, 2, 0, 0, 5);
        e.says(3, "(On unlike LAYERS neither is either.)");
        ChipFloor w = Edges.with(0, 4, 4, 0, 3, 3, 0, 2, 2, 0, 1, 1);
        w.move(4, 1, 0);
        w.move(4, 3, 0);
        stand(w, 0, 0, 0, 0, 4, 0, 3, 0);
        w.move(4, 2, 0);
        stand(w, 0, 0, 0, 0, 3, 0, 5, 0);
        placesInAllOrders(0, 0, 0, 0);
        placesInAllOrders(0, 1, 1, 0);
    }

    private void placesInAllOrders(int... layers) {
        int[] wide = {5, 2, 9, 3};
        int[] high = {4, 7, 1, 6};
        for (Orders orders : Orders.all(layers)) {
            ChipFloor x = orders.laid(Edges.with(0, 5, 4, 0, 2, 7, 0, 9, 1, 0, 3, 6));
            for (int i = 0; i < wide.length; i++) {
                e.due(orders.x(i, wide), x, "told", i, 10);
                e.due(orders.y(i, high), x, "told", i, 11);
            }
        }
    }

    private void heats() {
        e.says(3, "HEAT of a BLOCK: its POWER times 4, and POWER of all that it TOUCHES");
        ChipFloor one = Edges.with(0, 1, 1);
        e.due(0, one, "told", 0, 13);
        one.power(0, 99);
        e.due(396, one, "told", 0, 13);
        ChipFloor row = new ChipFloor();
        for (int i = 0; i < 8; i++) {
            row.block(0, 1, 1);
            row.power(i, 99);
        }
        for (int i = 0; i < 8; i++) {
            e.due(i == 0 || i == 7 ? 495 : 594, row, "told", i, 13);
        }
        // for 1 along y, and along x
        ChipFloor y = Edges.with(0, 2, 1, 0, 2, 3);
        y.power(1, 7);
        e.due(7, y, "told", 0, 13);
        y.move(0, 0, 1);
        e.due(7, y, "told", 0, 13);
        ChipFloor corner = Edges.with(0, 2, 2, 0, 2, 2, 0, 2, 2);
        corner.move(0, 0, 1);
        corner.move(1, 1, 2);
        corner.power(1, 7);
        e.due(0, corner, "told", 2, 13);
        e.due(7, corner, "told", 0, 13);
    }

    /** Block 0 alone on LAYER 0; over it 1 from (0, 0) to (1, 1), 3 from (1, 0) to (2, 1), 2 from (1, 1) on. */
    private ChipFloor under(int a, int b) {
        ChipFloor x = Edges.with(0, a, b, 0, 1, 1, 0, 3, 3, 0, 1, 1);
        x.move(1, 2, 3);
        for (int block = 1; block < 4; block++) {
            x.move(4, block, 0);
        }
        x.power(2, 7);
        return x;
    }

    private void liesOver() {
        e.says(3, "and twice that of those on the other LAYER that lie over it (share a place in x and y)");
        stand(under(2, 2), 0, 0, 0, 0, 1, 1, 1, 0);
        e.due(14, under(2, 2), "told", 0, 13);
        e.due(0, under(1, 1), "told", 0, 13);
        e.due(0, under(2, 1), "told", 0, 13);
        e.due(0, under(1, 2), "told", 0, 13);
        e.due(14, under(4, 4), "told", 0, 13);
        e.due(14, under(30, 30), "told", 0, 13);
        ChipFloor x = under(2, 2);
        x.power(0, 99);
        e.due(28 + 198, x, "told", 2, 13);
        // 1 and 3 touch 2 on their own layer, and 0 lies under all three
        e.due(198 + 7, x, "told", 3, 13);
        e.due(198, x, "told", 1, 13);
        x.power(1, 5);
        x.power(3, 3);
        e.due(396 + 14 + 10 + 6, x, "told", 0, 13);
    }

    private void grows() {
        e.says(3, "(others may come to stand further right), THE WIDTH staying (0 and more)");
        e.due(0, Edges.with(0, 30, 30), "told", 0, 14);
        ChipFloor x = Edges.with(0, 3, 1, 0, 4, 1, 0, 10, 1);
        x.move(0, 0, 2);
        x.move(0, 1, 2);
        // 0 LEFT of 1, both BELOW 2
        stand(x, 0, 0, 3, 0, 0, 1);
        int[] beside = {3, 3, 0};
        for (int i = 0; i < 3; i++) {
            e.due(beside[i], x, "told", i, 14);
        }
        for (int wide = 6; wide <= 8; wide++) {
            ChipFloor y = Edges.with(0, 3, 1, 0, 4, 1, 0, wide, 1);
            y.move(4, 2, 0);
            e.due(Math.max(0, wide - 7), y, "told", 0, 14);
            e.due(Math.max(0, wide - 7), y, "told", 1, 14);
            e.due(Math.max(0, 7 - wide), y, "told", 2, 14);
        }
        // the two that are LEFT of 2 have unlike widths: the lesser one may grow to the other
        ChipFloor z = Edges.with(0, 2, 1, 0, 5, 1, 0, 1, 1);
        z.move(0, 0, 1);
        e.due(3, z, "told", 0, 14);
        e.due(0, z, "told", 1, 14);
        e.due(0, z, "told", 2, 14);
        e.due(5, z, "told", 2, 10);
        growsInAllOrders(0, 0, 0, 0);
        growsInAllOrders(1, 0, 1, 1);
    }

    private void growsInAllOrders(int... layers) {
        int[] wide = {5, 2, 9, 3};
        for (Orders orders : Orders.all(layers)) {
            ChipFloor x = orders.laid(Edges.with(0, 5, 1, 0, 2, 1, 0, 9, 1, 0, 3, 1));
            for (int i = 0; i < wide.length; i++) {
                e.due(orders.grows(i, wide), x, "told", i, 14);
            }
        }
    }

    private void as() {
        e.says(4, "A BLOCK as one of a KIND: its WIDTH. BAD: block, kind; KIND: it is not of that KIND, nor of one under it.");
        ChipFloor x = Edges.with(0, 10, 1, 1, 11, 1, 2, 12, 1, 3, 13, 1, 4, 14, 1, 5, 15, 1);
        for (int block = 0; block < 6; block++) {
            for (int kind = 0; kind < 6; kind++) {
                int want = KIND;
                for (int above : KINDS_ABOVE[block]) {
                    want = above == kind ? 10 + block : want;
                }
                e.due(want, x, "as", block, kind);
            }
        }
        for (int out : new int[] {-1, 6, LEAST, MOST}) {
            e.refused(BAD, States::some, "as", 0, out);
            e.refused(BAD, States::some, "as", out, 0);
        }
        e.refused(BAD, States::some, "as", 3, 0);
        e.refused(BAD, States::full, "as", 8, 0);
        e.refused(BAD, States::fresh, "as", 0, 0);
        e.refused(KIND, States::some, "as", 0, 4);
        e.refused(KIND, States::full, "as", 7, 2);
        e.due(6, States.some(), "as", 2, 1);
        x.move(3, 2, 0);
        e.due(13, x, "as", 2, 2);
    }

    private void power() {
        e.says(5, "POWER of a BLOCK becomes v: what it was. BAD.");
        ChipFloor x = Edges.with(0, 1, 1, 4, 1, 1);
        e.due(0, x, "power", 0, 99);
        e.due(99, x, "power", 0, 0);
        e.due(0, x, "power", 0, 98);
        e.due(98, x, "power", 0, 98);
        e.due(0, x, "power", 1, 1);
        e.due(98, x, "told", 0, 3);
        e.says(5, "a POWER 0 .. 99 (0 at first)");
        for (int v : new int[] {-1, 100, LEAST, MOST}) {
            e.refusedInAllStates(BAD, "power", 0, v);
        }
        for (int block : new int[] {-1, 8, LEAST, MOST}) {
            e.refusedInAllStates(BAD, "power", block, 1);
        }
        e.refused(BAD, States::some, "power", 3, 1);
        e.refused(BAD, States::fresh, "power", 0, 1);
        e.due(5, States.some(), "power", 2, 0);
    }

    private void rules() {
        e.says(6, "What = 0 POSTS (0 .. 9), 1 AREA (0 .. 9), 2 LENGTH (0 .. 9), 3 OUT (0 .. 99), 4 EDGE (1 .. 240) becomes v: what it was. BAD.");
        int[] least = {0, 0, 0, 0, 1}, most = {9, 9, 9, 99, 240}, first = {1, 1, 1, 9, 60};
        for (int what = 0; what < 5; what++) {
            ChipFloor x = new ChipFloor();
            e.due(first[what], x, "rule", what, least[what]);
            e.due(least[what], x, "rule", what, most[what]);
            e.due(most[what], x, "rule", what, least[what] + 1);
            e.due(least[what] + 1, x, "rule", what, least[what]);
            for (int other = 0; other < 5; other++) {
                e.due(other == what ? least[what] : first[other], x, "rule", other, most[other]);
            }
            for (int v : new int[] {least[what] - 1, most[what] + 1, LEAST, MOST}) {
                e.refusedInAllStates(BAD, "rule", what, v);
            }
        }
        for (int what : new int[] {-1, 5, LEAST, MOST}) {
            e.refusedInAllStates(BAD, "rule", what, 1);
        }
    }

    private void nets() {
        e.says(7, "NETS, 10 at most, numbered from 0");
        ChipFloor x = new ChipFloor();
        for (int i = 0; i < 10; i++) {
            e.due(i, x, "net", 3, 9);
            e.due(i + 1, x, "count", 1);
        }
        e.due(FULL, x, "net", 3, 9);
        e.due(10, x, "count", 1);
        e.refused(FULL, States::full, "net", 255, 1);
        e.says(7, "a set of BLOCKS (bits 0 .. 7, there or not; two at least)");
        for (int set : new int[] {3, 129, 192, 254, 255}) {
            e.due(0, new ChipFloor(), "net", set, 1);
            e.due(2, States.some(), "net", set, 1);
        }
        for (int bit = 0; bit < 8; bit++) {
            e.refused(BAD, States::some, "net", 1 << bit, 1);
        }
        for (int set : new int[] {0, 256, 257, 258, 259, 511, -1, -256, LEAST, LEAST + 3, MOST}) {
            e.refused(BAD, States::some, "net", set, 1);
        }
        e.says(7, "a WEIGHT 1 .. 9");
        e.due(0, new ChipFloor(), "net", 3, 1);
        e.due(0, new ChipFloor(), "net", 3, 9);
        for (int weight : new int[] {0, 10, -1, LEAST, MOST}) {
            e.refused(BAD, States::some, "net", 3, weight);
        }
        e.says(7, "One more NET: its number. BAD; FULL.");
        e.refused(BAD, States::full, "net", 1, 1);
        e.refused(BAD, States::full, "net", 256, 1);
        e.refused(BAD, States::full, "net", 3, 0);
        e.refused(BAD, States::full, "net", 3, 10);
    }

    private void wireRefused() {
        e.says(8, "WIRE of a NET (what 0), GUESS (1), MISS (2). BAD.");
        for (int net : new int[] {-1, 10, LEAST, MOST}) {
            e.refusedInAllStates(BAD, "wire", net, 0);
        }
        for (int what : new int[] {-1, 3, LEAST, MOST}) {
            e.refused(BAD, States::some, "wire", 0, what);
            e.refused(BAD, States::full, "wire", 9, what);
        }
        e.refused(BAD, States::fresh, "wire", 0, 0);
        e.refused(BAD, States::some, "wire", 2, 0);
        ChipFloor x = Edges.with(0, 2, 2, 0, 2, 2);
        for (int i = 0; i < 10; i++) {
            x.net(3, 1 + i % 9);
        }
        // middles (2, 2) and (6, 2); the root of 8 is 2
        e.due(4, x, "wire", 0, 0);
        e.due(4, x, "wire", 0, 1);
        e.due(0, x, "wire", 0, 2);
        e.due(36, x, "wire", 8, 0);
        e.due(4, x, "wire", 9, 0);
    }

    private void wires() {
        e.says(8, "by its WEIGHT; 0 with fewer than two");
        ChipFloor x = new ChipFloor();
        x.net(129, 9);
        x.net(6, 9);
        for (int i = 0; i < 7; i++) {
            e.due(0, x, "wire", 0, 0);
            x.block(0, 1, 1);
        }
        e.due(0, x, "wire", 0, 0);
        e.due(18, x, "wire", 1, 0);
        x.block(0, 1, 1);
        // middles 1 and 15 in x
        e.due(9 * 14, x, "wire", 0, 0);
        e.says(8, "WIRE of a NET: of its BLOCKS that there are, the middles being 2 X and WIDTH, 2 Y and HEIGHT: the greatest less the least middle in x, and likewise in y");
        ChipFloor y = new ChipFloor();
        y.net(255, 9);
        for (int i = 0; i < 8; i++) {
            y.block(0, 30, i == 3 ? 1 : 30);
        }
        e.due(9 * (420 + 29), y, "wire", 0, 0);
        // over one another: middles (4, 3), (3, 9), (5, 16)
        ChipFloor pile = Edges.with(0, 4, 3, 0, 3, 3, 0, 5, 4);
        pile.net(7, 3);
        pile.net(6, 1);
        pile.move(0, 0, 2);
        e.due(6, pile, "told", 2, 11);
        e.due(3 * (2 + 13), pile, "wire", 0, 0);
        e.due(2 + 7, pile, "wire", 1, 0);
        // alike middles
        ChipFloor z = Edges.with(0, 4, 4, 0, 4, 4);
        z.net(3, 9);
        z.move(4, 1, 0);
        z.rule(0, 0);
        e.due(0, z, "wire", 0, 0);
    }

    private void wiresOfLayers() {
        e.says(8, "and 2 times POSTS (0 .. 9; 1 at first), if they are on both LAYERS");
        ChipFloor x = Edges.with(0, 1, 1, 0, 1, 1, 0, 1, 1);
        x.net(3, 3);
        x.move(4, 2, 0);
        // 2 is not of the net
        e.due(3 * 2, x, "wire", 0, 0);
        x.move(4, 1, 0);
        // 1 at (0, 0) over 0
        e.due(3 * 2, x, "wire", 0, 0);
        x.rule(0, 0);
        e.due(0, x, "wire", 0, 0);
        x.rule(0, 9);
        e.due(3 * 18, x, "wire", 0, 0);
        x.move(4, 0, 0);
        // all on LAYER 1
        e.due(3 * 2, x, "wire", 0, 0);
        // one of two alone is there, on LAYER 1
        ChipFloor y = Edges.with(0, 1, 1);
        y.net(129, 9);
        y.move(4, 0, 0);
        e.due(0, y, "wire", 0, 0);
    }

    private void guesses() {
        e.says(8, "GUESS of a NET: WEIGHT times 2 times the whole root (cut) of all ROOMS of its BLOCKS that there are together; MISS: WIRE less GUESS");
        int[][] roots = {{1, 1}, {3, 1}, {4, 2}, {8, 2}, {9, 3}, {15, 3}, {16, 4}, {24, 4}, {25, 5}};
        for (int[] root : roots) {
            ChipFloor x = Edges.with(0, root[0], 1);
            x.net(3, 9);
            e.due(18 * root[1], x, "wire", 0, 1);
            e.due(-18 * root[1], x, "wire", 0, 2);
        }
        ChipFloor none = new ChipFloor();
        none.net(192, 9);
        e.due(0, none, "wire", 0, 1);
        e.due(0, none, "wire", 0, 2);
        ChipFloor cut = Edges.with(5, 1, 1, 5, 1, 1, 0, 9, 9);
        cut.net(3, 9);
        e.due(0, cut, "wire", 0, 1);
        ChipFloor full = new ChipFloor();
        full.net(255, 9);
        for (int i = 0; i < 8; i++) {
            full.block(3, 30, 30);
        }
        // the root of 7208
        e.due(18 * 84, full, "wire", 0, 1);
        e.due(9 * 420 - 18 * 84, full, "wire", 0, 2);
    }
}
