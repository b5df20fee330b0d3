import java.util.ArrayList;
import java.util.List;
import java.util.function.Supplier;

/** Promises 9 to 19: at, whole, stands, move, undo, seed, walk, bound, best, touch, hottest. */
final class EdgesOfLayings {
    private static final int BAD = ChipFloor.BAD, NO = ChipFloor.NO, SPENT = ChipFloor.SPENT, NONE = ChipFloor.NONE;
    private static final int LEAST = Edges.LEAST, MOST = Edges.MOST;
    private final Edges e;

    EdgesOfLayings(Edges e) {
        this.e = e;
    }

    void all() {
        at();
        whole();
        waste();
        wiresOfAll();
        price();
        stands();
        moveRefused();
        movesOfRows();
        movesOfShapes();
        movesOfLayers();
        undoOfTwenty();
        undoOfNothing();
        undoBehind();
        seed();
        walkRefused();
        walkTakes();
        walkSteps();
        walkHeat();
        walkUndo();
        walkOfFixed();
        boundRefused();
        boundsOfRooms();
        boundsOfSides();
        leastPrice();
        best();
        bestIsTheFirst();
        touch();
        hottest();
    }

    private void rowsAre(ChipFloor x, int... rows) {
        int n = rows.length / 2;
        for (int i = 0; i < rows.length; i++) {
            e.due(rows[i], x, "at", i / n, i % n);
        }
    }

    /** As many blocks of one kind and size. */
    private static ChipFloor alike(int many, int kind, int a, int b) {
        ChipFloor x = new ChipFloor();
        for (int i = 0; i < many; i++) {
            x.block(kind, a, b);
        }
        return x;
    }

    private void at() {
        e.says(9, "The BLOCK at a place (from 0 on) of THE ONE (row 0), THE OTHER (1). BAD.");
        for (int row : new int[] {-1, 2, LEAST, MOST}) {
            e.refusedInAllStates(BAD, "at", row, 0);
        }
        for (int place : new int[] {-1, 8, LEAST, MOST}) {
            e.refusedInAllStates(BAD, "at", 0, place);
            e.refusedInAllStates(BAD, "at", 1, place);
        }
        for (int many = 0; many <= 8; many++) {
            ChipFloor x = alike(many, 0, 1, 1);
            for (int row = 0; row < 2; row++) {
                for (int place = 0; place < many; place++) {
                    e.due(place, x, "at", row, place);
                }
                e.due(BAD, x, "at", row, many);
            }
        }
    }

    private void whole() {
        e.says(10, "What = 0 THE WIDTH, 1 THE HEIGHT, 2 WASTE, 3 WIRES, 4 PRICE. BAD.");
        for (int what : new int[] {-1, 5, LEAST, MOST}) {
            e.refusedInAllStates(BAD, "whole", what);
        }
        e.says(10, "THE WIDTH of all: the greatest of X and WIDTH together (0 without BLOCKS); THE HEIGHT likewise.");
        ChipFloor none = new ChipFloor();
        none.net(255, 9);
        none.rule(4, 1);
        for (int what = 0; what < 5; what++) {
            e.due(0, none, "whole", what);
        }
        ChipFloor one = Edges.with(0, 1, 30);
        e.due(1, one, "whole", 0);
        e.due(30, one, "whole", 1);
        ChipFloor row = alike(8, 0, 30, 1);
        e.due(240, row, "whole", 0);
        e.due(1, row, "whole", 1);
        // the last of THE OTHER is not the one that reaches furthest
        ChipFloor x = Edges.with(0, 9, 7, 0, 1, 1);
        x.move(4, 1, 0);
        e.due(9, x, "whole", 0);
        e.due(7, x, "whole", 1);
        // empty again
        ChipFloor back = new ChipFloor();
        back.keep();
        back.block(0, 30, 30);
        back.back();
        for (int what = 0; what < 5; what++) {
            e.due(0, back, "whole", what);
        }
    }

    private void waste() {
        e.says(10, "WASTE: THE WIDTH times THE HEIGHT, and for BLOCKS on LAYER 1 this once more (if there are any), less WIDTH times HEIGHT of all.");
        e.due(0, new ChipFloor(), "whole", 2);
        ChipFloor x = Edges.with(5, 3, 4);
        // by WIDTH and HEIGHT, not by ROOM
        e.due(0, x, "whole", 2);
        x.move(4, 0, 0);
        e.due(12, x, "whole", 2);
        x.block(0, 3, 4);
        e.due(0, x, "whole", 2);
        x.block(0, 1, 1);
        // 4 by 4 of two layers, less 12, 12, 1
        e.due(32 - 25, x, "whole", 2);
        x.move(4, 0, 0);
        // all on LAYER 0, 7 by 4
        e.due(28 - 25, x, "whole", 2);
    }

    private void wiresOfAll() {
        e.says(10, "WIRES: of all together.");
        ChipFloor x = Edges.with(0, 1, 1, 0, 1, 1);
        e.due(0, x, "whole", 3);
        for (int i = 1; i <= 10; i++) {
            x.net(3, 1);
            e.due(2 * i, x, "whole", 3);
        }
        ChipFloor y = alike(8, 0, 30, 30);
        for (int i = 0; i < 10; i++) {
            y.net(255, 9);
        }
        e.due(37800, y, "whole", 3);
        y.rule(2, 9);
        y.rule(1, 9);
        y.rule(3, 99);
        y.rule(4, 1);
        e.due(9 * 37800 + 9 * 7200 + 99 * (239 + 29), y, "whole", 4);
        y.rule(2, 0);
        e.due(9 * 7200 + 99 * (239 + 29), y, "whole", 4);
    }

    private void price() {
        e.says(10, "OUT (0 .. 99; 9 at first) times what THE WIDTH and THE HEIGHT are more than EDGE (1 .. 240; 60 at first), each");
        ChipFloor wide = Edges.with(0, 30, 1, 0, 30, 1);
        e.due(60, wide, "whole", 4);
        wide.block(0, 1, 1);
        e.due(61 + 9, wide, "whole", 4);
        ChipFloor high = Edges.with(0, 1, 30, 0, 1, 30);
        high.move(0, 0, 1);
        e.due(60, high, "whole", 4);
        high.block(0, 1, 1);
        high.move(0, 0, 2);
        high.move(0, 1, 2);
        e.due(61, high, "whole", 1);
        e.due(61 + 9, high, "whole", 4);
        ChipFloor both = Edges.with(0, 7, 5);
        int[][] edges = {{8, 0}, {7, 0}, {6, 1}, {5, 2}, {4, 3 + 1}, {1, 6 + 4}};
        for (int[] edge : edges) {
            both.rule(4, edge[0]);
            e.due(35 + 9 * edge[1], both, "whole", 4);
        }
        both.rule(3, 99);
        e.due(35 + 99 * 10, both, "whole", 4);
        both.rule(3, 0);
        e.due(35, both, "whole", 4);
        both.rule(1, 0);
        e.due(0, both, "whole", 4);
        ChipFloor most = alike(8, 2, 30, 30);
        most.rule(4, 240);
        e.due(7200, most, "whole", 4);
        for (int block = 0; block < 8; block++) {
            for (int i = 0; i < 5; i++) {
                most.move(3, block, 0);
            }
        }
        // 8 times 35, 26 high
        e.due(280 * 26 + 9 * 40, most, "whole", 4);
    }

    private void stands() {
        e.says(11, "How i stands to j: 0 LEFT, 1 BELOW, 2 j is LEFT of it, 3 j is BELOW it; NONE: they are on unlike LAYERS. BAD: also if they are one.");
        for (int out : new int[] {-1, 8, LEAST, MOST}) {
            e.refusedInAllStates(BAD, "stands", out, 0);
            e.refusedInAllStates(BAD, "stands", 0, out);
        }
        e.refused(BAD, States::fresh, "stands", 0, 1);
        e.refused(BAD, States::some, "stands", 0, 3);
        e.refused(BAD, States::some, "stands", 3, 0);
        for (int i = 0; i < 3; i++) {
            e.refused(BAD, States::some, "stands", i, i);
        }
        e.says(11, "Of two BLOCKS i is LEFT of j if it stands ahead of it in both rows; BELOW it, if it stands behind it in THE ONE and ahead of it in THE OTHER. (On unlike LAYERS neither is either.)");
        int[][] cases = {{0, 0, 0, 2}, {1, 0, 1, 3}, {0, 1, 3, 1}, {1, 1, 2, 0}};
        for (int[] c : cases) {
            ChipFloor x = alike(8, 0, 1, 1);
            x.move(0, 0, c[0] == 1 ? 7 : 0);
            x.move(1, 0, c[1] == 1 ? 7 : 0);
            e.due(c[2], x, "stands", 0, 7);
            e.due(c[3], x, "stands", 7, 0);
            x.move(4, 0, 0);
            e.due(NONE, x, "stands", 0, 7);
            e.due(NONE, x, "stands", 7, 0);
            e.due(BAD, x, "stands", 7, 7);
            x.move(4, 7, 0);
            e.due(c[2], x, "stands", 0, 7);
            e.due(c[3], x, "stands", 7, 0);
        }
        standsInAllOrders(0, 0, 0, 0);
        standsInAllOrders(0, 1, 0, 1);
    }

    private void standsInAllOrders(int... layers) {
        for (Orders orders : Orders.all(layers)) {
            ChipFloor x = orders.laid(alike(layers.length, 0, 1, 1));
            for (int i = 0; i < layers.length; i++) {
                for (int j = 0; j < layers.length; j++) {
                    e.due(i == j ? BAD : orders.standing(i, j), x, "stands", i, j);
                }
            }
        }
    }

    private void moveRefused() {
        e.says(12, "A MOVE (0 .. 4; of 3 and 4 q is any): PRICE then. BAD: move, places, BLOCKS that are not there; NO: it is FIXED.");
        for (int move : new int[] {-1, 5, LEAST, MOST}) {
            e.refusedInAllStates(BAD, "move", move, 0, 0);
        }
        for (int move = 0; move < 5; move++) {
            for (int p : new int[] {-1, 8, LEAST, MOST}) {
                e.refusedInAllStates(BAD, "move", move, p, 0);
            }
            e.refused(BAD, States::fresh, "move", move, 0, 0);
            e.refused(BAD, States::some, "move", move, 3, 0);
        }
        for (int move = 0; move < 3; move++) {
            for (int q : new int[] {-1, 8, LEAST, MOST}) {
                e.refusedInAllStates(BAD, "move", move, 0, q);
            }
            e.refused(BAD, States::some, "move", move, 0, 3);
        }
        e.refused(NO, States::some, "move", 4, 2, 0);
        e.refused(NO, States::some, "move", 4, 2, MOST);
        e.refused(NO, States::full, "move", 4, 4, -1);
        for (int q : new int[] {-1, 0, 2, 3, 8, LEAST, MOST}) {
            ChipFloor x = Edges.with(0, 2, 2, 1, 5, 1);
            e.due(15, x, "move", 3, 1, q);
            e.due(10, x, "move", 4, 1, q);
            e.due(2, x, "count", 5);
            e.due(1, x, "undo");
            e.due(0, x, "undo");
            e.due(14, x, "whole", 4);
        }
    }

    private void movesOfRows() {
        e.says(12, "MOVES: 0: the BLOCKS at places p and q of THE ONE change places there; 1: likewise of THE OTHER; 2: two BLOCKS (numbered p, q) change places in both rows");
        ChipFloor x = Edges.with(0, 1, 1, 0, 1, 1, 0, 1, 1, 0, 1, 1);
        e.due(6, x, "move", 0, 0, 3);
        rowsAre(x, 3, 1, 2, 0, 0, 1, 2, 3);
        x.move(1, 3, 1);
        rowsAre(x, 3, 1, 2, 0, 0, 3, 2, 1);
        x.move(2, 3, 2);
        rowsAre(x, 2, 1, 3, 0, 0, 2, 3, 1);
        x.move(0, 0, 1);
        // a place in the rows is not the number of a block
        rowsAre(x, 1, 2, 3, 0, 0, 2, 3, 1);
        x.move(2, 0, 3);
        rowsAre(x, 1, 2, 0, 3, 3, 2, 0, 1);
        ChipFloor full = alike(8, 0, 1, 1);
        e.due(18, full, "move", 0, 7, 0);
        e.due(7, full, "at", 0, 0);
        e.due(0, full, "at", 0, 7);
        e.due(8, full, "move", 1, 0, 7);
        e.due(8, full, "move", 2, 7, 0);
        rowsAre(full, 0, 1, 2, 3, 4, 5, 6, 7, 0, 1, 2, 3, 4, 5, 6, 7);
        e.says(12, "p and q alike is a MOVE that changes nothing");
        for (int move = 0; move < 3; move++) {
            for (int p = 0; p < 8; p += 7) {
                e.due(8, full, "move", move, p, p);
                rowsAre(full, 0, 1, 2, 3, 4, 5, 6, 7, 0, 1, 2, 3, 4, 5, 6, 7);
            }
        }
        e.due(9, full, "count", 5);
        ChipFloor one = Edges.with(0, 3, 3);
        for (int move = 0; move < 3; move++) {
            e.due(9, one, "move", move, 0, 0);
            e.due(BAD, one, "move", move, 0, 1);
            e.due(BAD, one, "move", move, 1, 0);
        }
    }

    private void movesOfShapes() {
        e.says(12, "3: BLOCK p has its next SHAPE (behind the last one the first)");
        int[] many = {1, 2, 6, 5, 1, 3};
        for (int kind = 0; kind < 6; kind++) {
            ChipFloor x = Edges.with(0, 1, 1, kind, 4, 3);
            for (int i = 1; i <= 2 * many[kind]; i++) {
                x.move(3, 1, 0);
                e.due(i % many[kind], x, "told", 1, 5);
                e.due(i, x, "count", 5);
            }
            e.due(0, x, "told", 0, 5);
        }
        ChipFloor cut = Edges.with(5, 4, 1);
        for (int i = 1; i <= 4; i++) {
            e.due(4, cut, "move", 3, 0, 0);
            e.due(i % 2, cut, "told", 0, 5);
        }
    }

    private void movesOfLayers() {
        e.says(12, "4: BLOCK p goes to the other LAYER (FIXED ones don't)");
        for (int kind = 0; kind < 6; kind++) {
            ChipFloor x = Edges.with(0, 4, 4, kind, 3, 3);
            if (kind == 4) {
                e.due(NO, x, "move", 4, 1, 1);
                e.due(0, x, "told", 1, 4);
                e.due(0, x, "count", 5);
            } else {
                e.due(16, x, "move", 4, 1, 1);
                e.due(1, x, "told", 1, 4);
                e.due(0, x, "told", 0, 4);
                e.due(28, x, "move", 4, 1, 1);
                e.due(0, x, "told", 1, 4);
                e.due(2, x, "count", 5);
            }
        }
        // FIXED ones turn to their next shape, which is the only one, and change places
        ChipFloor fixed = Edges.with(4, 3, 2, 4, 2, 3);
        e.due(15, fixed, "move", 3, 0, 0);
        e.due(0, fixed, "told", 0, 5);
        e.due(15, fixed, "move", 0, 0, 1);
        e.due(2, fixed, "count", 5);
    }

    private void undoOfTwenty() {
        e.says(13, "The latest 20 that were done can be undone, one by one");
        for (int moves = 18; moves <= 45; moves++) {
            ChipFloor x = Edges.with(2, 3, 3);
            for (int i = 0; i < moves; i++) {
                x.move(3, 0, 0);
            }
            int can = Math.min(20, moves);
            e.due(can, x, "count", 5);
            for (int i = 1; i <= can; i++) {
                e.due(can - i, x, "undo");
                e.due((moves - i) % 6, x, "told", 0, 5);
            }
            e.due(NO, x, "undo");
            e.due((moves - can) % 6, x, "told", 0, 5);
        }
        e.says(13, "The latest MOVE that can be undone is: how many more can be. NO: none can.");
        ChipFloor x = Edges.with(2, 3, 3, 1, 4, 2, 0, 1, 5);
        int[][] moves = {{0, 0, 2}, {1, 1, 2}, {2, 0, 1}, {3, 0, 0}, {3, 1, 0}, {4, 2, 0}, {0, 1, 2}, {2, 2, 0}, {4, 0, 0}, {3, 0, 0}};
        List<List<Integer>> ahead = new ArrayList<>();
        for (int[] m : moves) {
            ahead.add(seen(x));
            x.move(m[0], m[1], m[2]);
        }
        for (int i = moves.length - 1; i >= 0; i--) {
            e.due(i, x, "undo");
            e.is("whether all is as ahead of move " + i, seen(x).equals(ahead.get(i)) ? 1 : 0, 1);
        }
        e.due(NO, x, "undo");
        e.refused(NO, States::fresh, "undo");
        e.refused(NO, () -> Edges.with(0, 1, 1), "undo");
        e.refused(NO, () -> {
            ChipFloor y = States.full();
            y.walk(1, 0);
            return y;
        }, "undo");
    }

    /** What a move could change. */
    private static List<Integer> seen(ChipFloor x) {
        List<Integer> all = new ArrayList<>();
        for (int i = 0; i < x.count(0); i++) {
            all.add(x.at(0, i));
            all.add(x.at(1, i));
            all.add(x.told(i, 4));
            all.add(x.told(i, 5));
            all.add(x.told(i, 6));
            all.add(x.told(i, 10));
            all.add(x.told(i, 11));
        }
        all.add(x.whole(4));
        return all;
    }

    private void undoOfNothing() {
        e.says(13, "(also such as changed nothing)");
        ChipFloor x = Edges.with(0, 2, 2, 4, 3, 3);
        x.move(1, 0, 1);
        x.move(0, 1, 1);
        x.move(2, 0, 0);
        x.move(3, 1, 0);
        e.due(4, x, "count", 5);
        for (int left = 3; left >= 1; left--) {
            e.due(left, x, "undo");
            e.due(1, x, "at", 1, 0);
        }
        e.due(0, x, "undo");
        e.due(0, x, "at", 1, 0);
        e.due(NO, x, "undo");
    }

    private void undoBehind() {
        e.says(13, "The latest MOVE that can be undone is: how many more can be. NO: none can.");
        // moves behind an undo, then nothing else is undone with them
        ChipFloor x = Edges.with(2, 3, 3);
        x.move(3, 0, 0);
        x.move(3, 0, 0);
        x.undo();
        x.power(0, 9);
        x.rule(1, 2);
        x.seed(5);
        x.net(3, 1);
        x.move(4, 0, 0);
        e.due(2, x, "count", 5);
        e.due(1, x, "undo");
        e.due(1, x, "told", 0, 5);
        e.due(0, x, "told", 0, 4);
        e.due(0, x, "undo");
        e.due(0, x, "told", 0, 5);
        e.due(9, x, "told", 0, 3);
        e.due(5, x, "count", 9);
        e.due(1, x, "count", 1);
        e.due(2, x, "rule", 1, 2);
        // all twenty undone, and twenty again
        ChipFloor y = Edges.with(2, 3, 3);
        for (int round = 0; round < 3; round++) {
            for (int i = 1; i <= 20; i++) {
                y.move(3, 0, 0);
                e.due(i, y, "count", 5);
            }
            for (int i = 19; i >= 0; i--) {
                e.due(i, y, "undo");
            }
            e.due(0, y, "told", 0, 5);
        }
    }

    private void seed() {
        e.says(14, "z becomes v: what it was.");
        ChipFloor x = new ChipFloor();
        int was = 1;
        for (int v : new int[] {0, -1, LEAST, MOST, ChipFloor.BAD, 1, 1}) {
            e.due(was, x, "seed", v);
            e.due(v, x, "count", 9);
            was = v;
        }
        ChipFloor y = States.full();
        y.seed(LEAST);
        e.due(20, y, "count", 5);
    }

    private void walkRefused() {
        e.says(15, "A WALK of n (1 .. 200) STEPS at a heat (0 .. 9999): PRICE then. BAD; NO: there are no BLOCKS.");
        for (int n : new int[] {0, 201, -1, LEAST, MOST}) {
            e.refusedInAllStates(BAD, "walk", n, 0);
            e.refusedInAllStates(BAD, "walk", n, 9999);
        }
        for (int heat : new int[] {-1, 10000, LEAST, MOST}) {
            e.refusedInAllStates(BAD, "walk", 1, heat);
            e.refusedInAllStates(BAD, "walk", 200, heat);
        }
        e.refused(NO, States::fresh, "walk", 1, 0);
        e.refused(NO, States::fresh, "walk", 200, 9999);
        Supplier<ChipFloor> emptied = () -> {
            ChipFloor x = new ChipFloor();
            x.keep();
            x.block(0, 1, 1);
            x.back();
            return x;
        };
        e.refused(NO, emptied, "walk", 1, 0);
        for (int n : new int[] {1, 200}) {
            for (int heat : new int[] {0, 9999}) {
                e.due(12, Edges.with(0, 4, 3), "walk", n, heat);
            }
        }
    }

    private static int next(int z) {
        return (int) ((z * 1103515245L + 12345L) & 0xffffffffL);
    }

    private void walkTakes() {
        e.says(15, "A WALK of n STEPS at a heat h: each STEP: z becomes z * 1103515245 + 12345 (an int; told, 1 at first)");
        for (int seed : new int[] {0, 1, -1, LEAST, MOST, 123456789}) {
            ChipFloor x = Edges.with(0, 1, 1, 4, 2, 2);
            x.seed(seed);
            int z = seed;
            for (int i = 0; i < 40; i++) {
                x.walk(1, 0);
                z = next(z);
                e.due(z, x, "count", 9);
            }
            x.walk(200, 7);
            for (int i = 0; i < 200; i++) {
                z = next(z);
            }
            e.due(z, x, "count", 9);
        }
    }

    /** Steps made one by one, each held against its MOVE made and undone on another object. */
    private void walkSteps() {
        e.says(15, "v is z >>> 8; the MOVE is v % 5, p is v / 5, q is v / 50, each its rest by how many BLOCKS there are");
        int[] kinds = {2, 5, 4, 1, 3, 0, 4, 2};
        for (int many = 1; many <= 8; many++) {
            ChipFloor x = new ChipFloor();
            ChipFloor y = new ChipFloor();
            for (ChipFloor made : new ChipFloor[] {x, y}) {
                for (int i = 0; i < many; i++) {
                    made.block(kinds[i], 2 + i, 7 - i % 4);
                }
                made.net(255, 2);
                made.net(3, 5);
                made.rule(4, 12);
                made.seed(-77 * many);
            }
            int z = -77 * many;
            for (int i = 0; i < 50; i++) {
                z = next(z);
                long v = (z & 0xffffffffL) / 256;
                int heat = i % 3 == 0 ? 0 : i % 37;
                stepByMove(y, (int) (v % 5), (int) (v / 5 % many), (int) (v / 50 % many), heat);
                e.due(y.whole(4), x, "walk", 1, heat);
                e.is("whether step " + i + " of " + many + " blocks is alike", seenLittle(x).equals(seenLittle(y)) ? 1 : 0, 1);
            }
            e.is("whether all is alike behind the steps of " + many + " blocks", seen(x).equals(seen(y)) ? 1 : 0, 1);
        }
    }

    private static List<Integer> seenLittle(ChipFloor x) {
        return List.of(x.whole(0), x.whole(1), x.whole(2));
    }

    private static void stepByMove(ChipFloor y, int move, int p, int q, int heat) {
        int ahead = y.whole(4);
        int then = y.move(move, p, q);
        if (then != NO && then > ahead && then - ahead >= heat) {
            y.undo();
        }
    }

    /** A seed whose first step is that MOVE. */
    private static int seedOf(int move) {
        return seedOf(move, 0);
    }

    /** A seed whose first step is that MOVE, of block p if there are two. */
    private static int seedOf(int move, int p) {
        int seed = 0;
        while ((next(seed) >>> 8) % 5 != move || (next(seed) >>> 8) / 5 % 2 != p) {
            seed++;
        }
        return seed;
    }

    private void walkHeat() {
        e.says(15, "if it can be done it is done, and stays if PRICE is not greater than ahead, or is by less than h; else all is as ahead of it");
        // 6 by 2, 2 by 6, 7 by 1: 12, 12, and 7 with 9 for being out by 1
        int seed = seedOf(3);
        for (int heat = 0; heat <= 9; heat++) {
            ChipFloor x = Edges.with(5, 6, 2);
            x.rule(4, 6);
            x.seed(seed);
            e.due(12, x, "walk", 1, heat);
            e.due(1, x, "told", 0, 5);
            x.seed(seed);
            boolean stays = heat > 4;
            e.due(stays ? 16 : 12, x, "walk", 1, heat);
            e.due(stays ? 2 : 1, x, "told", 0, 5);
            if (stays) {
                x.seed(seed);
                e.due(12, x, "walk", 1, 0);
                e.due(0, x, "told", 0, 5);
            }
        }
        // two squares, of which the second comes down to the first: more by 9998, 9999, 10000
        int[][] rows = {{30, 73, 34, 9998}, {29, 90, 31, 9999}, {30, 95, 40, 10000}};
        for (int[] row : rows) {
            ChipFloor x = Edges.with(0, row[0], row[0], 0, row[0], row[0]);
            x.rule(1, 9);
            x.rule(3, row[1]);
            x.rule(4, row[2]);
            int there = x.whole(4);
            int ahead = x.move(4, 1, 0);
            e.is("PRICE is more by", there - ahead, row[3]);
            x.seed(seedOf(4, 1));
            boolean stays = row[3] < 9999;
            e.due(stays ? there : ahead, x, "walk", 1, 9999);
            e.due(stays ? 0 : 1, x, "told", 1, 4);
            e.due(stays ? row[0] : 0, x, "told", 1, 10);
        }
    }

    private void walkUndo() {
        e.says(15, "(MOVES of a WALK can't be undone one by one: behind it none can)");
        ChipFloor x = Edges.with(0, 3, 3, 0, 2, 2);
        x.move(0, 0, 1);
        x.move(1, 0, 1);
        e.due(2, x, "count", 5);
        x.walk(1, 0);
        e.due(0, x, "count", 5);
        e.due(NO, x, "undo");
        x.walk(200, 9999);
        e.due(0, x, "count", 5);
        e.due(NO, x, "undo");
        x.move(2, 0, 1);
        e.due(0, x, "undo");
        e.due(NO, x, "undo");
    }

    private void walkOfFixed() {
        e.says(15, "It can't be done: 4 of FIXED; else p and q alike is a MOVE that changes nothing.");
        for (int move = 0; move < 5; move++) {
            ChipFloor x = Edges.with(4, 4, 3);
            x.seed(seedOf(move));
            e.due(12, x, "walk", 1, 9999);
            e.due(0, x, "told", 0, 4);
            e.due(0, x, "told", 0, 5);
            e.due(next(seedOf(move)), x, "count", 9);
            ChipFloor y = Edges.with(2, 4, 3);
            y.seed(seedOf(move));
            // p and q are alike here: 3 and 4 are done all the same
            y.walk(1, 9999);
            e.due(move == 4 ? 1 : 0, y, "told", 0, 4);
            e.due(move == 3 ? 1 : 0, y, "told", 0, 5);
        }
    }

    private void boundRefused() {
        e.says(16, "BOUNDS 0 .. 3. BAD; SPENT: 3 with more than 4 BLOCKS. (Without BLOCKS 0 each.)");
        for (int what : new int[] {-1, 4, LEAST, MOST}) {
            e.refusedInAllStates(BAD, "bound", what);
        }
        ChipFloor none = new ChipFloor();
        none.net(3, 9);
        none.rule(4, 1);
        for (int what = 0; what < 4; what++) {
            e.due(0, none, "bound", what);
        }
        for (int many = 1; many <= 8; many++) {
            ChipFloor x = alike(many, 0, 1, 1);
            e.due(many, x, "bound", 0);
            e.due(1, x, "bound", 1);
            e.due(1, x, "bound", 2);
            int[] least = {0, 1, 2, 3, 4};
            e.due(many <= 4 ? least[many] : SPENT, x, "bound", 3);
        }
        e.refused(SPENT, States::full, "bound", 3);
        e.refused(SPENT, () -> alike(5, 0, 1, 1), "bound", 3);
    }

    private void boundsOfRooms() {
        e.says(16, "BOUNDS: 0 the sum of ROOMS of BLOCKS on LAYER 0, and on 1, the greater");
        ChipFloor x = Edges.with(0, 3, 3, 3, 2, 4, 5, 1, 1);
        // rooms 9, 9, 0
        e.due(18, x, "bound", 0);
        x.move(4, 0, 0);
        e.due(9, x, "bound", 0);
        x.move(4, 2, 0);
        e.due(9, x, "bound", 0);
        x.block(0, 1, 1);
        e.due(10, x, "bound", 0);
        x.move(4, 3, 0);
        e.due(10, x, "bound", 0);
        x.move(4, 1, 0);
        e.due(19, x, "bound", 0);
        ChipFloor full = alike(8, 3, 30, 30);
        e.due(7208, full, "bound", 0);
    }

    private void boundsOfSides() {
        e.says(16, "1 the greatest of least WIDTHS of BLOCKS (of all their SHAPES); 2 likewise HEIGHTS");
        int[][] rows = {{0, 9, 4, 9, 4}, {1, 9, 4, 4, 4}, {1, 4, 9, 4, 4}, {2, 5, 6, 5, 3}, {2, 30, 30, 30, 26}, {3, 5, 6, 5, 5}, {3, 1, 3, 1, 1}, {3, 30, 30, 30, 28},
            {4, 9, 4, 9, 4}, {5, 9, 4, 4, 3}, {5, 4, 9, 4, 4}, {5, 9, 1, 1, 1}, {5, 3, 2, 2, 1}, {5, 1, 1, 1, 1}, {5, 8, 8, 8, 7}};
        for (int[] row : rows) {
            ChipFloor x = Edges.with(row[0], row[1], row[2]);
            for (int turn = 0; turn < 3; turn++) {
                e.due(row[3], x, "bound", 1);
                e.due(row[4], x, "bound", 2);
                x.move(3, 0, 0);
            }
            if (row[0] != 4) {
                x.move(4, 0, 0);
            }
            x.block(0, row[3] - 1 < 1 ? 1 : row[3] - 1, row[4] + 1 > 30 ? 30 : row[4] + 1);
            e.due(row[3], x, "bound", 1);
            e.due(row[4] + 1, x, "bound", 2);
        }
    }

    private void leastPrice() {
        e.says(16, "3 the least PRICE of all LAYINGS with SHAPES and LAYERS as they are (rows in all orders): told for 4 BLOCKS at most");
        for (Supplier<ChipFloor> made : searched()) {
            int[] found = firstOfTheLeast(made);
            e.due(found[0], made.get(), "bound", 3);
        }
        ChipFloor four = Edges.with(0, 30, 30, 0, 30, 30, 0, 30, 30, 0, 30, 30);
        e.due(3600, four, "bound", 3);
        four.rule(4, 59);
        e.due(3600 + 18, four, "bound", 3);
        ChipFloor x = States.some();
        x.bound(3);
        e.is("whether the laying stays", View.LAYING.of(x).equals(View.LAYING.of(States.some())) ? 1 : 0, 1);
        ChipFloor y = States.some();
        y.best(1, 2);
        e.is("whether what can be undone stays", View.TRAIL.of(y).equals(View.TRAIL.of(States.some())) ? 1 : 0, 1);
    }

    /** One to four blocks, among them such whose best rows are the last that are gone through. */
    private static List<Supplier<ChipFloor>> searched() {
        List<Supplier<ChipFloor>> all = new ArrayList<>();
        all.add(() -> Edges.with(3, 4, 5));
        // over one another, in THE OTHER the last order
        all.add(() -> Edges.with(0, 5, 1, 0, 5, 2));
        all.add(() -> netted(new int[] {3, 9, 6, 9}, 0, 10, 1, 0, 10, 1, 0, 10, 1));
        all.add(() -> netted(new int[] {3, 9, 6, 9, 12, 9}, 0, 10, 1, 0, 10, 1, 0, 10, 1, 0, 10, 1));
        // in THE ONE the last order
        all.add(() -> netted(new int[] {5, 5, 5, 8}, 0, 5, 2, 0, 6, 2, 0, 2, 3));
        all.add(() -> netted(new int[] {3, 8}, 0, 7, 4, 0, 2, 3, 0, 2, 7));
        all.add(() -> netted(new int[] {12, 6}, 0, 3, 6, 0, 9, 4, 0, 1, 1, 0, 6, 4));
        all.add(() -> netted(new int[] {5, 2, 6, 2}, 0, 4, 1, 0, 8, 9, 0, 1, 8, 0, 1, 9));
        for (int state = 0; state < 8; state++) {
            int bits = state;
            all.add(() -> turned(bits));
        }
        return all;
    }

    private static ChipFloor netted(int[] nets, int... blocks) {
        ChipFloor x = Edges.with(blocks);
        for (int i = 0; i < nets.length; i += 2) {
            x.net(nets[i], nets[i + 1]);
        }
        return x;
    }

    /** Three blocks in some of their shapes, those of the bits on LAYER 1, and rows that are not the first ones. */
    private static ChipFloor turned(int bits) {
        ChipFloor x = netted(new int[] {5, 3, 6, 1}, 1, 5, 2, 5, 3, 4, 2, 2, 6);
        x.rule(4, 5);
        for (int i = 0; i < 3; i++) {
            for (int turn = 0; turn < (bits + i) % 3; turn++) {
                x.move(3, i, 0);
            }
            if ((bits >> i & 1) == 1) {
                x.move(4, i, 0);
            }
        }
        x.move(0, bits % 3, 2);
        x.move(1, 0, (bits + 1) % 3);
        return x;
    }

    /** The least price of all rows, each laid by moves on an object of its own, then the first rows that have it. */
    private static int[] firstOfTheLeast(Supplier<ChipFloor> made) {
        int n = made.get().count(0);
        List<List<Integer>> orders = new ArrayList<>();
        addOrders(n, new ArrayList<>(), orders);
        int[] found = new int[1 + 2 * n];
        found[0] = MOST;
        for (List<Integer> one : orders) {
            for (List<Integer> other : orders) {
                ChipFloor x = made.get();
                arrange(x, 0, one);
                arrange(x, 1, other);
                if (x.whole(4) < found[0]) {
                    found[0] = x.whole(4);
                    for (int place = 0; place < n; place++) {
                        found[1 + place] = one.get(place);
                        found[1 + n + place] = other.get(place);
                    }
                }
            }
        }
        return found;
    }

    /** All orders of n numbers that begin like this one, the lesser number first. */
    private static void addOrders(int n, List<Integer> begun, List<List<Integer>> orders) {
        if (begun.size() == n) {
            orders.add(new ArrayList<>(begun));
        }
        for (int i = 0; i < n; i++) {
            if (!begun.contains(i)) {
                begun.add(i);
                addOrders(n, begun, orders);
                begun.remove(begun.size() - 1);
            }
        }
    }

    private static void arrange(ChipFloor x, int row, List<Integer> order) {
        for (int place = 0; place < order.size(); place++) {
            int from = place;
            while (x.at(row, from) != order.get(place)) {
                from++;
            }
            x.move(row, place, from);
        }
    }

    private void best() {
        e.says(17, "THE BEST: the BLOCK at a place of THE ONE (row 0), THE OTHER (1). BAD; SPENT (asked behind a row that is none, ahead of places).");
        for (int row : new int[] {-1, 2, LEAST, MOST}) {
            e.refusedInAllStates(BAD, "best", row, 0);
            e.refused(BAD, States::full, "best", row, 9);
        }
        for (int place : new int[] {-1, 8, LEAST, MOST}) {
            e.refused(BAD, States::fresh, "best", 0, place);
            e.refused(BAD, States::some, "best", 1, place);
            e.refused(SPENT, States::full, "best", 0, place);
            e.refused(SPENT, States::full, "best", 1, place);
        }
        e.refused(BAD, States::fresh, "best", 0, 0);
        e.refused(BAD, States::some, "best", 0, 3);
        e.refused(SPENT, States::full, "best", 1, 0);
        for (int many = 1; many <= 8; many++) {
            ChipFloor x = alike(many, 0, 1, 1);
            e.due(many <= 4 ? BAD : SPENT, x, "best", 0, many);
            e.due(many <= 4 ? BAD : SPENT, x, "best", 1, many);
            e.due(many <= 4 ? many - 1 : SPENT, x, "best", 0, many - 1);
            e.due(many <= 4 ? BAD : SPENT, x, "best", 1, -1);
        }
    }

    private void bestIsTheFirst() {
        e.says(17, "THE BEST: of those the first (THE ONE by its places, the lesser number first, then THE OTHER).");
        ChipFloor x = Edges.with(0, 1, 1, 0, 1, 1, 0, 1, 1, 0, 1, 1);
        x.rule(1, 0);
        x.move(2, 0, 3);
        x.move(0, 1, 2);
        for (int i = 0; i < 8; i++) {
            e.due(i % 4, x, "best", i / 4, i % 4);
        }
        for (Supplier<ChipFloor> made : searched()) {
            int[] found = firstOfTheLeast(made);
            int n = (found.length - 1) / 2;
            ChipFloor y = made.get();
            for (int i = 0; i < 2 * n; i++) {
                e.due(found[1 + i], y, "best", i / n, i % n);
            }
        }
        // over one another in a row of nets: 0 at the top comes first
        ChipFloor pile = netted(new int[] {3, 9, 6, 9, 12, 9}, 0, 10, 1, 0, 10, 1, 0, 10, 1, 0, 10, 1);
        e.due(40 + 9 * 6, pile, "bound", 3);
        for (int place = 0; place < 4; place++) {
            e.due(place, pile, "best", 0, place);
            e.due(3 - place, pile, "best", 1, place);
        }
        ChipFloor last = netted(new int[] {12, 6}, 0, 3, 6, 0, 9, 4, 0, 1, 1, 0, 6, 4);
        for (int place = 0; place < 4; place++) {
            e.due(3 - place, last, "best", 0, place);
        }
    }

    private void touch() {
        e.says(18, "Whether two BLOCKS TOUCH: 1, 0. BAD: also if they are one.");
        for (int out : new int[] {-1, 8, LEAST, MOST}) {
            e.refusedInAllStates(BAD, "touch", out, 0);
            e.refusedInAllStates(BAD, "touch", 0, out);
        }
        e.refused(BAD, States::fresh, "touch", 0, 1);
        e.refused(BAD, States::some, "touch", 0, 3);
        e.refused(BAD, States::some, "touch", 3, 0);
        for (int i = 0; i < 3; i++) {
            e.refused(BAD, States::some, "touch", i, i);
        }
        e.says(18, "TOUCH: two BLOCKS of one LAYER touch, if a side of the one lies along a side of the other one for 1 or more");
        // 0 at (0, 0), 1 above it, 2 right of 0 and below 1: they meet by how wide and high 0 is
        int[][] cases = {{2, 2, 2, 0}, {2, 3, 2, 1}, {2, 3, 1, 0}, {3, 1, 1, 0}};
        for (int[] c : cases) {
            ChipFloor x = Edges.with(0, 2, c[0], 0, c[1], 2, 0, 2, c[2]);
            x.move(0, 0, 1);
            x.move(1, 1, 2);
            e.due(Math.max(c[0], c[2]), x, "told", 1, 11);
            e.due(2, x, "told", 2, 10);
            e.due(c[3], x, "touch", 1, 2);
            e.due(c[3], x, "touch", 2, 1);
            e.due(1, x, "touch", 0, 2);
        }
        // side by side for 1, then with another between them
        ChipFloor row = Edges.with(0, 1, 30, 0, 1, 1, 0, 1, 30);
        e.due(1, row, "touch", 0, 1);
        e.due(1, row, "touch", 2, 1);
        e.due(0, row, "touch", 0, 2);
        row.move(4, 1, 0);
        e.due(1, row, "touch", 0, 2);
        e.due(0, row, "touch", 0, 1);
        e.due(0, row, "touch", 1, 2);
        row.move(4, 0, 0);
        // 0 at (0, 0), 1 at (1, 0), both on LAYER 1; 2 under 0
        e.due(1, row, "touch", 0, 1);
        e.due(0, row, "touch", 0, 2);
        // beside one another, but on unlike layers: 1 at (3, 0) on LAYER 1, 0 from (0, 0) to (3, 3) on LAYER 0
        ChipFloor beside = Edges.with(0, 3, 3, 0, 3, 3, 0, 3, 3);
        beside.move(4, 1, 0);
        beside.move(4, 2, 0);
        e.due(3, beside, "told", 2, 10);
        e.due(0, beside, "touch", 0, 2);
        e.due(0, beside, "touch", 2, 0);
        e.due(1, beside, "touch", 1, 2);
    }

    private void hottest() {
        e.says(19, "THE HOTTEST. NONE: there are no BLOCKS.");
        e.refused(NONE, States::fresh, "hottest");
        e.due(0, Edges.with(0, 1, 1), "hottest");
        ChipFloor back = new ChipFloor();
        back.keep();
        back.block(0, 1, 1);
        back.back();
        e.due(NONE, back, "hottest");
        e.says(19, "THE HOTTEST: the one of the greatest HEAT; of several the least.");
        ChipFloor x = alike(8, 0, 1, 1);
        e.due(0, x, "hottest");
        x.power(7, 1);
        e.due(7, x, "hottest");
        x.power(0, 1);
        e.due(0, x, "hottest");
        x.power(1, 1);
        // 0: 4 + 1, 1: 4 + 1
        e.due(0, x, "hottest");
        x.power(2, 1);
        // 1: 4 + 2
        e.due(1, x, "hottest");
        x.power(7, 2);
        e.due(7, x, "hottest");
    }
}
