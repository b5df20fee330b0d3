import java.util.function.Supplier;

/** Sentences that hold for many promises at once: refusals and their order, what a block, a laying, a price, a finding is. */
final class EdgesOfTerms {
    private static final int BAD = ChipFloor.BAD, NO = ChipFloor.NO, FULL = ChipFloor.FULL, SPENT = ChipFloor.SPENT, NONE = ChipFloor.NONE;
    private static final int NOTHING = ChipFloor.NOTHING, KIND = ChipFloor.KIND, INDEX = ChipFloor.INDEX, SIZE = ChipFloor.SIZE;
    private final Edges e;

    EdgesOfTerms(Edges e) {
        this.e = e;
    }

    void all() {
        refusedInTheirOrder();
        faultAheadOfFull();
        none();
        allAreBlocks();
        shapesOfAllSizes();
        rowsOfAllBlocks();
        noTwoShareAPlace();
        price();
        growsByTrial();
        kindsOfFindings();
        copyFromTo();
        frontAsBits();
    }

    /** Each call could be refused for what stands later with it, too; it answers what stands first, and all else stays. */
    private void refusedInTheirOrder() {
        e.says(1, "A call that is refused answers one of BAD, NO, FULL, SPENT, or a FINDING, of several the one that stands first with it,"
            + " and changes nothing (but the tape and the numbers that wait, where told).");
        e.refused(BAD, States::full, "block", 0, 31, 1);
        e.refused(FULL, States::full, "block", 0, 30, 1);
        e.refused(BAD, States::full, "net", 1, 1);
        e.refused(FULL, States::full, "net", 3, 1);
        e.refused(BAD, States::some, "move", 5, 2, 0);
        e.refused(NO, States::some, "move", 4, 2, 0);
        e.refused(BAD, States::fresh, "walk", 201, 0);
        e.refused(NO, States::fresh, "walk", 200, 0);
        e.refused(BAD, States::full, "bound", 4);
        e.refused(SPENT, States::full, "bound", 3);
        e.refused(BAD, States::full, "best", 2, 8);
        e.refused(SPENT, States::full, "best", 1, 8);
        e.refused(BAD, States::some, "best", 1, 3);
        e.refused(BAD, States::fresh, "check", 61);
        e.refused(NO, States::fresh, "check", 60);
        sheetsInTheirOrder();
        slotsInTheirOrder();
    }

    /** Of some() sheets 2 and 3 are MISSING, 1 has the ints 100, 101, 102, 0, and 0 three shorts. */
    private void sheetsInTheirOrder() {
        Supplier<ChipFloor> some = States::some;
        e.refused(BAD, some, "sheet", 4, 3, -1);
        e.refused(BAD, some, "sheet", 0, 3, -1);
        e.refused(SIZE, some, "sheet", 0, 2, -1);
        e.refused(BAD, some, "mark", 4, -1, 0);
        e.refused(NOTHING, some, "mark", 2, -1, 0);
        e.refused(INDEX, some, "mark", 1, -1, 0);
        e.refused(BAD, some, "powers", 4, -1);
        e.refused(NOTHING, some, "powers", 2, -1);
        e.refused(INDEX, some, "powers", 1, 2);
        e.refused(KIND, some, "powers", 1, 1);
        e.refused(BAD, some, "copy", 4, -1, 2, -1, -1);
        e.refused(BAD, some, "copy", 2, -1, 4, -1, -1);
        e.refused(NOTHING, some, "copy", 2, -1, 0, -1, -1);
        e.refused(NOTHING, some, "copy", 0, -1, 2, -1, -1);
        e.refused(KIND, some, "copy", 0, -1, 1, -1, -1);
        e.refused(INDEX, some, "copy", 0, -1, 0, -1, -1);
    }

    /** Of some() slots 3 and 4 hold nothing, 0 a HARD block, 1 a sheet, 2 a number. */
    private void slotsInTheirOrder() {
        Supplier<ChipFloor> some = States::some;
        e.refused(BAD, some, "lay", 5, 2, 2);
        e.refused(BAD, some, "lay", 0, 4, 2);
        e.refused(BAD, some, "lay", 0, 2, 4);
        e.refused(NOTHING, some, "lay", 0, 2, 2);
        e.refused(BAD, some, "ask", 5, 6);
        e.refused(BAD, some, "ask", 3, 6);
        e.refused(NOTHING, some, "ask", 3, 5);
        e.refused(KIND, some, "ask", 0, 5);
        e.refused(BAD, some, "item", 5, -1);
        e.refused(NOTHING, some, "item", 3, -1);
        e.refused(KIND, some, "item", 2, -1);
        e.refused(INDEX, some, "item", 1, -1);
        e.refused(BAD, some, "rest", 5, 0);
        e.refused(NOTHING, some, "rest", 3, 0);
        e.refused(KIND, some, "rest", 1, 0);
        e.refused(NO, some, "rest", 2, 0);
    }

    private void faultAheadOfFull() {
        e.says(22, "-100 less the place of its FAULT; FULL.");
        e.refused(-103, () -> Edges.taped(States.full(), "all"), "wish");
        e.refused(FULL, () -> Edges.taped(States.full(), "all 1"), "wish");
    }

    private void none() {
        e.says(19, "NONE: there is none.");
        e.due(NONE, new ChipFloor(), "hottest");
        e.due(0, Edges.with(0, 1, 1), "hottest");
        ChipFloor x = Edges.with(0, 1, 1, 0, 1, 1);
        e.due(NONE, x, "missed");
        Due.wish(x, "all 1");
        e.due(NONE, x, "missed");
        Due.wish(x, "all 0");
        e.due(1, x, "missed");
        e.due(0, x, "stands", 0, 1);
        x.move(4, 0, 0);
        e.due(NONE, x, "stands", 0, 1);
        e.due(NONE, x, "stands", 1, 0);
    }

    private void allAreBlocks() {
        e.says(4, "(all are BLOCKS)");
        for (int kind = 0; kind < 6; kind++) {
            ChipFloor x = Edges.with(kind, 7, 3);
            e.due(7, x, "as", 0, 0);
            x.lay(0, 1, 0);
            e.due(x.told(0, 9), x, "ask", 0, 0);
        }
    }

    private void shapesOfAllSizes() {
        e.says(3, "which shapes it has is told). SHAPES of a BLOCK, each a WIDTH and a HEIGHT:");
        for (int kind = 0; kind < 6; kind++) {
            for (int a = 1; a <= 30; a++) {
                for (int b = 1; b <= 30; b++) {
                    shapesAreAsWritten(kind, a, b);
                }
            }
        }
    }

    private void shapesAreAsWritten(int kind, int a, int b) {
        Plain.B written = new Plain.B();
        written.kind = kind;
        written.a = a;
        written.b = b;
        written.power = 99;
        ChipFloor x = Edges.with(kind, a, b);
        x.power(0, 99);
        String block = "block(" + kind + ", " + a + ", " + b + ") in a shape: ";
        int many = written.shapes().size();
        e.is(block + "how many", x.told(0, 12), many);
        for (written.shape = 0; written.shape < many; written.shape++) {
            e.is(block + "SHAPE", x.told(0, 5), written.shape);
            e.is(block + "WIDTH", x.told(0, 6), written.w());
            e.is(block + "HEIGHT", x.told(0, 7), written.h());
            e.is(block + "ROOM", x.told(0, 8), written.room());
            e.is(block + "WORTH", x.told(0, 9), written.worth());
            x.move(3, 0, 0);
        }
        e.is(block + "the first again", x.told(0, 5), 0);
    }

    private void rowsOfAllBlocks() {
        e.says(9, "A LAYING: two rows, THE ONE and THE OTHER, of all BLOCKS");
        for (int many = 1; many <= 8; many++) {
            ChipFloor x = new ChipFloor();
            for (int i = 0; i < many; i++) {
                x.block(i % 6, 2, 3);
                x.move(i % 3, 0, i);
                eachStandsOnce(x, i + 1);
            }
            x.walk(200, 9999);
            eachStandsOnce(x, many);
            x.move(2, 0, many - 1);
            x.undo();
            eachStandsOnce(x, many);
        }
    }

    private void eachStandsOnce(ChipFloor x, int many) {
        for (int row = 0; row < 2; row++) {
            int seen = 0;
            for (int place = 0; place < many; place++) {
                seen |= 1 << x.at(row, place);
            }
            e.is("the blocks of row " + row + ", as bits", seen, (1 << many) - 1);
            e.due(BAD, x, "at", row, many);
        }
    }

    private void noTwoShareAPlace() {
        e.says(3, "laid by two rows of names that tell who is left of or below whom, so that no two share a place");
        for (int seed = 0; seed < 60; seed++) {
            ChipFloor x = States.full();
            x.seed(seed);
            x.walk(200, 9999);
            for (int i = 0; i < 8; i++) {
                for (int j = 0; j < i; j++) {
                    e.is("whether " + i + " and " + j + " share a place from seed " + seed, sharePlace(x, i, j) ? 1 : 0, 0);
                }
            }
        }
    }

    private static boolean sharePlace(ChipFloor x, int i, int j) {
        return x.told(i, 4) == x.told(j, 4) && shareLine(x, i, j, 10, 6) && shareLine(x, i, j, 11, 7);
    }

    private static boolean shareLine(ChipFloor x, int i, int j, int place, int size) {
        return x.told(i, place) < x.told(j, place) + x.told(j, size) && x.told(j, place) < x.told(i, place) + x.told(i, size);
    }

    private void price() {
        e.says(10, "PRICE of a LAYING: THE WIDTH times THE HEIGHT times AREA (0 .. 9; 1 at first), and WIRES times LENGTH (0 .. 9; 1 at first),"
            + " and OUT (0 .. 99; 9 at first) times what THE WIDTH and THE HEIGHT are more than EDGE");
        for (int area = 0; area <= 9; area++) {
            for (int length = 0; length <= 9; length++) {
                // 7 by 5 beside 4 by 9: 11 by 9, and middles 7, 5 and 18, 9
                ChipFloor x = Edges.with(0, 7, 5, 0, 4, 9);
                x.net(3, 2);
                e.due(99 + 30, x, "whole", 4);
                x.rule(1, area);
                x.rule(2, length);
                e.due(99 * area + 30 * length, x, "whole", 4);
                x.rule(4, 10);
                e.due(99 * area + 30 * length + 9, x, "whole", 4);
                x.rule(3, 99);
                x.rule(4, 7);
                e.due(99 * area + 30 * length + 99 * (4 + 2), x, "whole", 4);
            }
        }
    }

    /** The block is made anew, wider by what it GROWS, and wider by one more, in the same rows and layers. */
    private void growsByTrial() {
        e.says(3, "GROWS: by how much the WIDTH of a BLOCK could be more, rows, SHAPES and LAYERS of all as they are");
        for (int above = 0; above < 8; above++) {
            for (Orders orders : Orders.all(above & 1, above >> 1 & 1, above >> 2)) {
                ChipFloor x = orders.laid(Edges.with(threeWide(0, 0)));
                for (int i = 0; i < 3; i++) {
                    int grows = x.told(i, 14);
                    e.is("GROWS of " + i + ", THE WIDTH with it", orders.laid(Edges.with(threeWide(i, grows))).whole(0), x.whole(0));
                    int wider = orders.laid(Edges.with(threeWide(i, grows + 1))).whole(0);
                    e.is("GROWS of " + i + ", THE WIDTH with one more", wider, x.whole(0) + 1);
                }
            }
        }
    }

    /** Three blocks, that one of them wider by so much. */
    private static int[] threeWide(int block, int more) {
        int[] blocks = {0, 5, 2, 0, 2, 3, 0, 8, 1};
        blocks[3 * block + 1] += more;
        return blocks;
    }

    private void kindsOfFindings() {
        e.says(33, "KIND: it is none (of a KIND, or another thing).");
        ChipFloor x = States.some();
        // a SOFT block, and slots with a HARD one, a sheet, a number
        e.due(KIND, x, "as", 1, 1);
        e.due(KIND, x, "as", 1, 3);
        e.due(KIND, x, "ask", 0, 2);
        e.due(KIND, x, "ask", 0, 4);
        for (int slot = 0; slot < 3; slot++) {
            e.is("whether ask of slot " + slot + " is of another thing", x.ask(slot, 0) == KIND ? 1 : 0, slot == 0 ? 0 : 1);
            e.is("whether item of slot " + slot + " is of another thing", x.item(slot, 0) == KIND ? 1 : 0, slot == 1 ? 0 : 1);
            e.is("whether rest of slot " + slot + " is of another thing", x.rest(slot, 1) == KIND ? 1 : 0, slot == 2 ? 0 : 1);
        }
    }

    private void copyFromTo() {
        e.says(31, "(From a SHEET, its place, to a SHEET, its place.)");
        ChipFloor x = new ChipFloor();
        x.sheet(2, 1, 6);
        x.sheet(3, 1, 7);
        for (int place = 0; place < 6; place++) {
            x.mark(2, place, 20 + place);
            x.mark(3, place, 30 + place);
        }
        e.due(2, x, "copy", 2, 1, 3, 4, 2);
        int[] to = {30, 31, 32, 33, 21, 22, 0};
        for (int place = 0; place < 7; place++) {
            e.due(to[place], x, "mark", 3, place, 0);
        }
        for (int place = 0; place < 6; place++) {
            e.due(20 + place, x, "mark", 2, place, 0);
        }
    }

    private void frontAsBits() {
        e.says(27, "THE FRONT, as bits.");
        for (int seed = 0; seed < 40; seed++) {
            ChipFloor x = Edges.with(2, 5, 6, 1, 2, 7, 5, 4, 3);
            x.net(7, 1);
            x.power(0, 9);
            x.power(1, 4);
            x.seed(seed);
            int bits = 0;
            for (int i = 0; i < 8; i++) {
                x.walk(3, 9999);
                x.stow();
            }
            for (int i = 0; i < 8; i++) {
                bits |= 1 - x.stowed(i, 3) << i;
            }
            e.due(bits, x, "front");
        }
    }
}
