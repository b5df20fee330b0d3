/** Promises 9 to 19: at, whole, stands, move, undo, seed, walk, bound, best, touch, hottest. */
public final class LayingsTest {
    private static final int BAD = ChipFloor.BAD, NO = ChipFloor.NO, SPENT = ChipFloor.SPENT, NONE = ChipFloor.NONE;
    private static final Due due = new Due();

    public static void main(String[] args) {
        rows();
        whole();
        priceBeyondTheEdge();
        waste();
        stands();
        moves();
        refusedMoves();
        undo();
        undoOfTwenty();
        seed();
        walk();
        walkStaysOrNot();
        bounds();
        best();
        bestOfEqualOnes();
        bestOfAllLayings();
        touch();
        touchAndLieOverForOne();
        heat();
        grows();
        due.end();
    }

    /** Three blocks, 0 below 1, 2 right of both: places (0, 0), (0, 3), (4, 0). */
    private static ChipFloor three() {
        ChipFloor x = new ChipFloor();
        x.block(0, 4, 3);
        x.block(1, 2, 5);
        x.block(4, 6, 1);
        x.move(0, 0, 1);
        return x;
    }

    private static void rowsAre(ChipFloor x, String name, int... rows) {
        int n = rows.length / 2;
        for (int i = 0; i < 2 * n; i++) {
            due.is(name + ": at(" + i / n + ", " + i % n + ")", x.at(i / n, i % n), rows[i]);
        }
    }

    private static void standAt(ChipFloor x, String name, int... places) {
        for (int i = 0; i < places.length; i++) {
            due.is(name + (i % 2 == 0 ? ": X of " : ": Y of ") + i / 2, x.told(i / 2, 10 + i % 2), places[i]);
        }
    }

    private static void rows() {
        ChipFloor x = three();
        rowsAre(x, "9", 1, 0, 2, 0, 1, 2);
        due.is("9: row -1", x.at(-1, 0), BAD);
        due.is("9: row 2", x.at(2, 0), BAD);
        due.is("9: place -1", x.at(0, -1), BAD);
        due.is("9: place 3", x.at(1, 3), BAD);
        standAt(x, "3", 0, 0, 0, 3, 4, 0);
    }

    private static void whole() {
        ChipFloor x = three();
        x.net(7, 2);
        due.is("10: THE WIDTH", x.whole(0), 10);
        due.is("10: THE HEIGHT", x.whole(1), 8);
        due.is("10: WASTE", x.whole(2), 80 - 12 - 10 - 6);
        // middles (4, 3), (2, 11), (14, 1)
        due.is("10: WIRES", x.whole(3), 2 * (12 + 10));
        due.is("10: PRICE", x.whole(4), 80 + 44);
        x.net(3, 1);
        due.is("10: WIRES of all nets", x.whole(3), 44 + 2 + 8);
        x.rule(1, 9);
        x.rule(2, 0);
        due.is("10: AREA", x.whole(4), 720);
        x.rule(2, 3);
        due.is("10: LENGTH", x.whole(4), 720 + 162);
        due.is("10: what -1", x.whole(-1), BAD);
        due.is("10: what 5", x.whole(5), BAD);
    }

    private static void priceBeyondTheEdge() {
        ChipFloor x = three();
        x.rule(4, 9);
        due.is("10: one beyond in x", x.whole(4), 80 + 9);
        x.rule(4, 10);
        due.is("10: none beyond", x.whole(4), 80);
        x.rule(4, 7);
        due.is("10: beyond in both", x.whole(4), 80 + 9 * (3 + 1));
        x.rule(3, 99);
        due.is("10: OUT", x.whole(4), 80 + 99 * 4);
        x.rule(1, 0);
        due.is("10: no AREA", x.whole(4), 99 * 4);
    }

    private static void waste() {
        ChipFloor x = three();
        x.move(4, 0, 0);
        // 1 and 2 below in one layer, 0 over them: 8 wide, 5 high
        standAt(x, "10", 0, 0, 0, 0, 2, 0);
        due.is("10: WASTE of two layers", x.whole(2), 2 * 40 - 28);
        ChipFloor y = new ChipFloor();
        y.block(0, 3, 4);
        y.move(4, 0, 0);
        due.is("10: WASTE with LAYER 1 alone", y.whole(2), 12);
    }

    private static void stands() {
        ChipFloor x = three();
        due.is("11: 0 to 1", x.stands(0, 1), 1);
        due.is("11: 1 to 0", x.stands(1, 0), 3);
        due.is("11: 0 to 2", x.stands(0, 2), 0);
        due.is("11: 2 to 0", x.stands(2, 0), 2);
        due.is("11: one", x.stands(1, 1), BAD);
        due.is("11: i", x.stands(-1, 1), BAD);
        due.is("11: j", x.stands(1, 3), BAD);
        due.is("11: i above", x.stands(3, 1), BAD);
        due.is("11: j below", x.stands(1, -1), BAD);
        x.move(4, 1, 0);
        due.is("11: unlike layers", x.stands(1, 0), NONE);
        due.is("11: unlike layers, one", x.stands(1, 1), BAD);
        due.is("11: like layers still", x.stands(0, 2), 0);
    }

    private static void moves() {
        ChipFloor x = three();
        due.is("12: 0", x.move(0, 0, 2), 6 * 6);
        rowsAre(x, "12: 0", 2, 0, 1, 0, 1, 2);
        standAt(x, "12: 0", 0, 0, 4, 0, 0, 5);
        due.is("12: 1", x.move(1, 2, 0), 10 * 8);
        rowsAre(x, "12: 1", 2, 0, 1, 2, 1, 0);
        standAt(x, "12: 1", 6, 5, 6, 0, 0, 0);
    }

    private static void refusedMoves() {
        ChipFloor x = three();
        int[][] bad = {{-1, 0, 0}, {5, 0, 0}, {0, 3, 0}, {0, 0, 3}, {1, -1, 0}, {1, 0, -1}, {2, 3, 0}, {2, 0, 3}, {3, 3, 0}, {3, -1, 0}, {4, 3, 0}, {4, -1, 0}};
        for (int[] b : bad) {
            due.is("12: move(" + b[0] + ", " + b[1] + ", " + b[2] + ")", x.move(b[0], b[1], b[2]), BAD);
        }
        due.is("12: FIXED", x.move(4, 2, 0), NO);
        due.is("12: refused ones can't be undone", x.count(5), 1);
        due.is("12: FIXED has its next shape", x.move(3, 2, 99), 80);
        due.is("12: 3, q is any", x.move(3, 1, -7), 11 * 5);
        due.is("12: 4, q is any", x.move(4, 1, 1 << 30), 10 * 3);
        due.is("12: LAYER", x.told(1, 4), 1);
        due.is("12: the same place", x.move(0, 1, 1), 30);
        due.is("12: the same block", x.move(2, 1, 1), 30);
        due.is("12: all were done", x.count(5), 6);
    }

    private static void undo() {
        ChipFloor x = three();
        x.move(2, 0, 2);
        rowsAre(x, "12: 2", 1, 2, 0, 2, 1, 0);
        x.move(3, 1, 0);
        x.move(4, 0, 0);
        x.move(1, 1, 1);
        x.move(3, 1, 0);
        due.is("13: turned twice", x.told(1, 5), 0);
        due.is("13: shape", x.undo(), 5);
        due.is("13: turned once", x.told(1, 5), 1);
        due.is("13: nothing changed", x.undo(), 4);
        due.is("13: layer", x.undo(), 3);
        due.is("13: LAYER", x.told(0, 4), 0);
        due.is("13: shape", x.undo(), 2);
        due.is("13: SHAPE", x.told(1, 5), 0);
        due.is("13: both rows", x.undo(), 1);
        rowsAre(x, "13", 1, 0, 2, 0, 1, 2);
        standAt(x, "13", 0, 0, 0, 3, 4, 0);
        due.is("13: THE ONE", x.undo(), 0);
        rowsAre(x, "13", 0, 1, 2, 0, 1, 2);
        due.is("13: none", x.undo(), NO);
        due.is("13: PRICE", x.whole(4), 12 * 5);
    }

    private static void undoOfTwenty() {
        ChipFloor x = new ChipFloor();
        x.block(2, 3, 3);
        for (int i = 0; i < 23; i++) {
            x.move(3, 0, 0);
        }
        due.is("13: twenty", x.count(5), 20);
        for (int i = 19; i >= 0; i--) {
            due.is("13: how many more", x.undo(), i);
            due.is("13: SHAPE", x.told(0, 5), (3 + i) % 6);
        }
        due.is("13: no more", x.undo(), NO);
        due.is("13: SHAPE stays", x.told(0, 5), 3);
        x.move(3, 0, 0);
        due.is("13: power stays", x.power(0, 9), 0);
        x.rule(1, 2);
        x.undo();
        due.is("13: what else was told stays", x.told(0, 3), 9);
        due.is("13: rules stay", x.rule(1, 1), 2);
    }

    private static void seed() {
        ChipFloor x = new ChipFloor();
        due.is("14: at first", x.seed(Integer.MIN_VALUE), 1);
        due.is("14: any", x.seed(-5), Integer.MIN_VALUE);
        due.is("14: z", x.count(9), -5);
        x.block(0, 1, 1);
        x.walk(2, 0);
        int z = -5 * 1103515245 + 12345;
        z = z * 1103515245 + 12345;
        due.is("14: z behind a walk", x.count(9), z);
    }

    private static void walk() {
        ChipFloor x = new ChipFloor();
        due.is("15: no blocks", x.walk(1, 0), NO);
        due.is("15: BAD ahead of NO", x.walk(0, 0), BAD);
        x.block(0, 4, 3);
        x.move(3, 0, 0);
        due.is("15: n 0", x.walk(0, 0), BAD);
        due.is("15: n 201", x.walk(201, 0), BAD);
        due.is("15: heat -1", x.walk(1, -1), BAD);
        due.is("15: heat 10000", x.walk(1, 10000), BAD);
        due.is("15: refused, what can be undone stays", x.count(5), 1);
        due.is("15: refused, z stays", x.count(9), 1);
        due.is("15: 200 at 9999", x.walk(200, 9999), 12);
        due.is("15: nothing to undo", x.undo(), NO);
    }

    /** A seed is looked for whose step turns the block, so that what stays is plain. */
    private static void walkStaysOrNot() {
        int seed = 0;
        while ((seed * 1103515245 + 12345 >>> 8) % 5 != 3) {
            seed++;
        }
        ChipFloor x = new ChipFloor();
        x.block(5, 6, 2);
        x.rule(4, 6);
        // shapes 6 by 2, 2 by 6, 7 by 1: 12, 12, and 7 with 9 for being out by 1
        x.seed(seed);
        due.is("15: alike stays", x.walk(1, 0), 12);
        due.is("15: shape 1", x.told(0, 5), 1);
        x.seed(seed);
        due.is("15: more by 4 at 4", x.walk(1, 4), 12);
        due.is("15: shape 1 still", x.told(0, 5), 1);
        x.seed(seed);
        due.is("15: more by 4 at 5", x.walk(1, 5), 16);
        due.is("15: shape 2", x.told(0, 5), 2);
        x.seed(seed);
        due.is("15: less stays", x.walk(1, 0), 12);
        due.is("15: shape 0", x.told(0, 5), 0);
        while ((seed * 1103515245 + 12345 >>> 8) % 5 != 4) {
            seed++;
        }
        ChipFloor y = new ChipFloor();
        y.block(4, 3, 3);
        y.seed(seed);
        due.is("15: FIXED", y.walk(1, 9999), 9);
        due.is("15: FIXED stays on its layer", y.told(0, 4), 0);
    }

    private static void bounds() {
        ChipFloor x = new ChipFloor();
        for (int what = 0; what < 4; what++) {
            due.is("16: without blocks", x.bound(what), 0);
        }
        due.is("16: what -1", x.bound(-1), BAD);
        due.is("16: what 4", x.bound(4), BAD);
        x.block(2, 3, 4);
        x.block(3, 2, 5);
        x.block(5, 4, 6);
        // rooms 12, 11, 23; least widths 3, 2, 4; least heights 2, 3, 4
        due.is("16: 0", x.bound(0), 46);
        due.is("16: 1", x.bound(1), 4);
        due.is("16: 2", x.bound(2), 4);
        x.move(4, 2, 0);
        due.is("16: 0 of both layers", x.bound(0), 23);
        x.move(4, 0, 0);
        due.is("16: 0 of LAYER 1", x.bound(0), 35);
        ChipFloor z = new ChipFloor();
        z.block(0, 9, 8);
        z.block(0, 2, 3);
        due.is("16: 1 of the first", z.bound(1), 9);
        due.is("16: 2 of the first", z.bound(2), 8);
        ChipFloor y = new ChipFloor();
        y.block(3, 1, 3);
        // heights 3, 2, 1, 2, 2
        due.is("16: 2 of FAMILY", y.bound(2), 1);
        y.block(1, 9, 5);
        due.is("16: 1 of HARD", y.bound(1), 5);
        due.is("16: 2 of HARD", y.bound(2), 5);
        y.block(4, 9, 2);
        due.is("16: 1 of FIXED", y.bound(1), 9);
        y.block(0, 1, 8);
        due.is("16: 2 of BLOCK", y.bound(2), 8);
        due.is("16: 3 of four", y.bound(3) > 0 ? 1 : 0, 1);
        y.block(0, 1, 1);
        due.is("16: 3 of five", y.bound(3), SPENT);
        due.is("16: 0 of five", y.bound(0), 4 + 45 + 18 + 8 + 1);
    }

    private static void best() {
        ChipFloor x = new ChipFloor();
        due.is("17: without blocks", x.best(0, 0), BAD);
        x.block(0, 2, 1);
        x.block(0, 2, 1);
        x.block(0, 1, 2);
        // the two flat ones over one another, the third beside them: 3 by 2
        due.is("16: 3", x.bound(3), 6);
        int[] rows = {0, 1, 2, 1, 0, 2};
        for (int i = 0; i < 6; i++) {
            due.is("17: best(" + i / 3 + ", " + i % 3 + ")", x.best(i / 3, i % 3), rows[i]);
        }
        rowsAre(x, "17: the laying stays", 0, 1, 2, 0, 1, 2);
        due.is("17: row -1", x.best(-1, 0), BAD);
        due.is("17: row 2", x.best(2, 0), BAD);
        due.is("17: place -1", x.best(0, -1), BAD);
        due.is("17: place 3", x.best(1, 3), BAD);
        x.block(0, 1, 1);
        x.block(0, 1, 1);
        due.is("17: five", x.best(0, 0), SPENT);
        due.is("17: SPENT ahead of places", x.best(1, 9), SPENT);
        due.is("17: a row that is none ahead of SPENT", x.best(2, 0), BAD);
    }

    private static void bestOfEqualOnes() {
        ChipFloor x = new ChipFloor();
        for (int i = 0; i < 4; i++) {
            x.block(0, 1, 1);
        }
        x.rule(1, 0);
        x.move(2, 0, 3);
        for (int i = 0; i < 8; i++) {
            due.is("17: the first of all", x.best(i / 4, i % 4), i % 4);
        }
    }

    /** All 576 layings of four blocks, each made by moves on an object of its own. */
    private static void bestOfAllLayings() {
        int least = Integer.MAX_VALUE;
        int[] first = new int[8];
        for (int i = 0; i < 576; i++) {
            int[] rows = new int[8];
            ChipFloor y = arranged(i / 24, i % 24, rows);
            if (y.whole(4) < least) {
                least = y.whole(4);
                first = rows;
            }
        }
        ChipFloor x = arranged(17, 5, new int[8]);
        due.is("16: 3 of four blocks", x.bound(3), least);
        for (int i = 0; i < 8; i++) {
            due.is("17: of four blocks", x.best(i / 4, i % 4), first[i]);
        }
    }

    private static ChipFloor arranged(int oneOrder, int otherOrder, int[] rows) {
        ChipFloor x = new ChipFloor();
        x.block(0, 7, 2);
        x.block(0, 3, 5);
        x.block(0, 4, 4);
        x.block(0, 2, 6);
        x.net(6, 9);
        x.net(9, 8);
        x.net(12, 1);
        int[] orders = {oneOrder, otherOrder};
        for (int row = 0; row < 2; row++) {
            int left = orders[row];
            int[] parts = {6, 2, 1};
            for (int place = 0; place < 3; place++) {
                // the lesser numbers keep their order behind the one that is drawn to the place
                for (int k = place + left / parts[place]; k > place; k--) {
                    x.move(row, k, k - 1);
                }
                left %= parts[place];
            }
            for (int place = 0; place < 4; place++) {
                rows[4 * row + place] = x.at(row, place);
            }
        }
        return x;
    }

    private static void touchAndLieOverForOne() {
        ChipFloor x = new ChipFloor();
        x.block(0, 2, 1);
        x.block(0, 2, 3);
        x.power(1, 7);
        due.is("18: along y for 1", x.touch(0, 1), 1);
        ChipFloor y = new ChipFloor();
        y.block(0, 1, 3);
        y.block(0, 4, 3);
        y.power(1, 7);
        y.move(0, 0, 1);
        due.is("18: along x for 1", y.touch(0, 1), 1);
        x.move(4, 1, 0);
        due.is("3: lies over for 1 in y", x.told(0, 13), 14);
        y.move(4, 1, 0);
        due.is("3: lies over for 1 in x", y.told(0, 13), 14);
        ChipFloor z = new ChipFloor();
        z.block(0, 2, 2);
        z.block(0, 3, 3);
        z.block(0, 3, 3);
        z.power(2, 7);
        z.move(4, 1, 0);
        // 2 at (2, 0) right of 0; 1 over both, for 1 over 2
        due.is("3: lies over for 1", z.told(1, 13), 14);
        z.move(4, 2, 0);
        // 2 at (3, 0) on the layer of 1, beside 0 but not over it
        due.is("3: beside on the other layer", z.told(0, 13), 0);
    }

    private static void touch() {
        ChipFloor x = three();
        // (0, 0) 4 by 3; (0, 3) 2 by 5; (4, 0) 6 by 1
        due.is("18: 0 and 1", x.touch(0, 1), 1);
        due.is("18: 1 and 0", x.touch(1, 0), 1);
        due.is("18: 0 and 2", x.touch(0, 2), 1);
        due.is("18: 1 and 2", x.touch(1, 2), 0);
        due.is("18: one", x.touch(1, 1), BAD);
        due.is("18: i", x.touch(3, 1), BAD);
        due.is("18: i", x.touch(-1, 1), BAD);
        due.is("18: j", x.touch(1, 3), BAD);
        due.is("18: j", x.touch(1, -1), BAD);
        x.move(4, 0, 0);
        due.is("18: unlike layers", x.touch(0, 1), 0);
        ChipFloor y = new ChipFloor();
        // 0 at (0, 0), 1 above it, 2 right of 0 and below 1: 1 and 2 meet in a corner alone
        y.block(0, 2, 2);
        y.block(0, 2, 2);
        y.block(0, 2, 2);
        y.move(0, 0, 1);
        y.move(1, 1, 2);
        standAt(y, "18", 0, 0, 0, 2, 2, 0);
        due.is("18: a corner", y.touch(1, 2), 0);
        due.is("18: a side", y.touch(0, 2), 1);
    }

    private static void heat() {
        ChipFloor x = three();
        due.is("19: of several the least", x.hottest(), 0);
        x.power(0, 5);
        x.power(1, 10);
        x.power(2, 7);
        due.is("3: HEAT of 0", x.told(0, 13), 20 + 10 + 7);
        due.is("3: HEAT of 1", x.told(1, 13), 40 + 5);
        due.is("3: HEAT of 2", x.told(2, 13), 28 + 5);
        due.is("19: hottest", x.hottest(), 1);
        x.move(4, 0, 0);
        // 0 now lies over 1 at (0, 0) and over 2 at (2, 0), which touch one another
        due.is("3: HEAT of 0, over", x.told(0, 13), 20 + 20 + 14);
        due.is("3: HEAT of 1, under", x.told(1, 13), 40 + 7 + 10);
        due.is("3: HEAT of 2, under", x.told(2, 13), 28 + 10 + 10);
        x.power(0, 6);
        // 24 + 34 is 58, 40 + 7 + 12 is 59
        due.is("19: hottest of both layers", x.hottest(), 1);
        due.is("19: none", new ChipFloor().hottest(), NONE);
    }

    private static void grows() {
        ChipFloor x = three();
        due.is("3: GROWS of 0", x.told(0, 14), 0);
        due.is("3: GROWS of 1", x.told(1, 14), 2);
        due.is("3: GROWS of 2", x.told(2, 14), 0);
        x.move(4, 0, 0);
        // 1 and 2 are 8 wide in a row, 0 is 4 wide by itself
        due.is("3: GROWS on the other layer", x.told(0, 14), 4);
        due.is("3: GROWS of 1", x.told(1, 14), 0);
    }
}
