/** Promises 1 to 8: a new object, block, told, as, power, rule, net, wire. */
public final class BlocksTest {
    private static final int BAD = ChipFloor.BAD, FULL = ChipFloor.FULL, NO = ChipFloor.NO, NONE = ChipFloor.NONE;
    private static final int NOTHING = ChipFloor.NOTHING, KIND = ChipFloor.KIND;
    private static final Due due = new Due();

    public static void main(String[] args) {
        newObject();
        blocks();
        blocksComeBehindAll();
        shapes();
        toldRefusals();
        kindsUnderOneAnother();
        power();
        rules();
        nets();
        wires();
        guesses();
        due.end();
    }

    private static void newObject() {
        ChipFloor x = new ChipFloor();
        for (int what = 0; what <= 8; what++) {
            due.is("1: count(" + what + ")", x.count(what), 0);
        }
        due.is("1: z", x.count(9), 1);
        for (int what = 0; what <= 4; what++) {
            due.is("1: whole(" + what + ")", x.whole(what), 0);
        }
        due.is("1: POSTS", x.rule(0, 0), 1);
        due.is("1: AREA", x.rule(1, 0), 1);
        due.is("1: LENGTH", x.rule(2, 0), 1);
        due.is("1: OUT", x.rule(3, 0), 9);
        due.is("1: EDGE", x.rule(4, 1), 60);
        for (int sheet = 0; sheet < 4; sheet++) {
            due.is("1: sheet is missing", x.mark(sheet, 0, 1), NOTHING);
        }
        for (int slot = 0; slot < 5; slot++) {
            due.is("1: slot holds nothing", x.lay(slot, 0, 0), 0);
        }
        due.is("1: undo", x.undo(), NO);
        due.is("1: back", x.back(), NO);
        due.is("1: check", x.check(1), NO);
        due.is("1: hottest", x.hottest(), NONE);
        due.is("1: missed", x.missed(), NONE);
        due.is("1: front", x.front(), 0);
        due.is("1: at", x.at(0, 0), BAD);
        due.is("1: told", x.told(0, 0), BAD);
    }

    private static void blocks() {
        ChipFloor x = new ChipFloor();
        int[][] bad = {{-1, 1, 1}, {6, 1, 1}, {0, 0, 1}, {0, 31, 1}, {0, 1, 0}, {0, 1, 31}, {0, -1, 1}, {0, 1, Integer.MIN_VALUE}, {Integer.MAX_VALUE, 1, 1}};
        for (int[] b : bad) {
            due.is("2: block(" + b[0] + ", " + b[1] + ", " + b[2] + ")", x.block(b[0], b[1], b[2]), BAD);
        }
        due.is("2: none came", x.count(0), 0);
        for (int i = 0; i < 8; i++) {
            due.is("2: number", x.block(i % 6, i % 2 == 0 ? 30 : 1, i % 2 == 0 ? 1 : 30), i);
        }
        due.is("2: the ninth", x.block(0, 1, 1), FULL);
        due.is("2: BAD ahead of FULL", x.block(6, 1, 1), BAD);
        due.is("2: eight", x.count(0), 8);
        x.move(3, 1, 0);
        x.block(0, 1, 1);
        due.is("2: refused, what can be undone stays", x.count(5), 1);
    }

    private static void blocksComeBehindAll() {
        ChipFloor x = new ChipFloor();
        x.block(0, 2, 2);
        x.block(0, 3, 3);
        x.move(0, 0, 1);
        due.is("2: one to undo", x.count(5), 1);
        due.is("2: the third", x.block(1, 4, 5), 2);
        due.is("2: nothing to undo", x.undo(), NO);
        int[] one = {1, 0, 2}, other = {0, 1, 2};
        for (int i = 0; i < 3; i++) {
            due.is("2: THE ONE", x.at(0, i), one[i]);
            due.is("2: THE OTHER", x.at(1, i), other[i]);
        }
        int[] first = {1, 4, 5, 0, 0, 0, 4, 5};
        for (int what = 0; what < 8; what++) {
            due.is("2: at first " + what, x.told(2, what), first[what]);
        }
    }

    /** Each row: kind, a, b, then for every shape its width, height, room and worth (with power 7). */
    private static void shapes() {
        int[][] rows = {
            {0, 4, 3, 4, 3, 12, 12},
            {1, 5, 2, 5, 2, 10, 17, 2, 5, 10, 17},
            {2, 5, 4, 5, 4, 20, 20, 6, 4, 20, 19, 7, 3, 20, 18, 8, 3, 20, 17, 9, 3, 20, 16, 10, 2, 20, 15},
            {2, 1, 1, 1, 1, 1, 1, 2, 1, 1, 0, 3, 1, 1, -1, 4, 1, 1, -2, 5, 1, 1, -3, 6, 1, 1, -4},
            {3, 5, 4, 5, 4, 21, 21, 6, 4, 21, 20, 7, 3, 21, 19, 8, 4, 21, 18, 9, 4, 21, 17},
            {4, 6, 2, 6, 2, 12, 38},
            {5, 2, 6, 2, 6, 11, 11, 6, 2, 11, 11, 3, 5, 14, 14},
            {5, 4, 1, 4, 1, 3, 3, 1, 4, 3, 3},
            {5, 3, 2, 3, 2, 5, 5, 2, 3, 5, 5, 4, 1, 3, 3},
        };
        for (int[] row : rows) {
            ChipFloor x = new ChipFloor();
            x.block(row[0], row[1], row[2]);
            x.power(0, 7);
            int many = (row.length - 3) / 4;
            String name = "3: kind " + row[0] + ", " + row[1] + ", " + row[2] + ": ";
            due.is(name + "shapes", x.told(0, 12), many);
            for (int turn = 0; turn <= many; turn++) {
                int s = turn % many;
                due.is(name + "shape", x.told(0, 5), s);
                for (int k = 0; k < 4; k++) {
                    due.is(name + "shape " + s + " what " + (6 + k), x.told(0, 6 + k), row[3 + 4 * s + k]);
                }
                x.move(3, 0, 0);
            }
            due.is(name + "KIND", x.told(0, 0), row[0]);
            due.is(name + "a", x.told(0, 1), row[1]);
            due.is(name + "b", x.told(0, 2), row[2]);
            due.is(name + "POWER", x.told(0, 3), 7);
            due.is(name + "HEAT", x.told(0, 13), 28);
            due.is(name + "GROWS", x.told(0, 14), 0);
        }
    }

    private static void toldRefusals() {
        ChipFloor x = new ChipFloor();
        x.block(0, 1, 1);
        due.is("3: block -1", x.told(-1, 0), BAD);
        due.is("3: block 1", x.told(1, 0), BAD);
        due.is("3: what -1", x.told(0, -1), BAD);
        due.is("3: what 15", x.told(0, 15), BAD);
        x.move(4, 0, 0);
        due.is("3: LAYER", x.told(0, 4), 1);
    }

    private static void kindsUnderOneAnother() {
        ChipFloor x = new ChipFloor();
        int[][] above = {{0}, {0, 1}, {0, 2}, {0, 2, 3}, {0, 1, 4}, {0, 5}};
        for (int kind = 0; kind < 6; kind++) {
            x.block(kind, 3 + kind, 2);
        }
        for (int block = 0; block < 6; block++) {
            for (int kind = 0; kind < 6; kind++) {
                int want = KIND;
                for (int k : above[block]) {
                    want = k == kind ? 3 + block : want;
                }
                due.is("4: as(" + block + ", " + kind + ")", x.as(block, kind), want);
            }
        }
        x.move(3, 3, 0);
        due.is("4: WIDTH as it is now", x.as(3, 2), 7);
        due.is("4: block -1", x.as(-1, 0), BAD);
        due.is("4: block 6", x.as(6, 0), BAD);
        due.is("4: kind -1", x.as(0, -1), BAD);
        due.is("4: kind 6", x.as(0, 6), BAD);
    }

    private static void power() {
        ChipFloor x = new ChipFloor();
        due.is("5: no block", x.power(0, 1), BAD);
        x.block(0, 1, 1);
        due.is("5: 99", x.power(0, 99), 0);
        due.is("5: 100", x.power(0, 100), BAD);
        due.is("5: -1", x.power(0, -1), BAD);
        due.is("5: block 1", x.power(1, 0), BAD);
        due.is("5: block -1", x.power(-1, 0), BAD);
        due.is("5: 0", x.power(0, 0), 99);
        due.is("5: told", x.told(0, 3), 0);
    }

    private static void rules() {
        ChipFloor x = new ChipFloor();
        int[] least = {0, 0, 0, 0, 1}, most = {9, 9, 9, 99, 240}, first = {1, 1, 1, 9, 60};
        for (int what = 0; what < 5; what++) {
            due.is("6: below " + what, x.rule(what, least[what] - 1), BAD);
            due.is("6: above " + what, x.rule(what, most[what] + 1), BAD);
            due.is("6: least " + what, x.rule(what, least[what]), first[what]);
            due.is("6: most " + what, x.rule(what, most[what]), least[what]);
        }
        for (int what = 0; what < 5; what++) {
            due.is("6: each by itself " + what, x.rule(what, most[what]), most[what]);
        }
        due.is("6: what -1", x.rule(-1, 1), BAD);
        due.is("6: what 5", x.rule(5, 1), BAD);
    }

    private static void nets() {
        ChipFloor x = new ChipFloor();
        int[][] bad = {{0, 1}, {1, 1}, {128, 1}, {256, 1}, {259, 1}, {-1, 1}, {3, 0}, {3, 10}, {3, -1}};
        for (int[] b : bad) {
            due.is("7: net(" + b[0] + ", " + b[1] + ")", x.net(b[0], b[1]), BAD);
        }
        for (int i = 0; i < 10; i++) {
            due.is("7: number", x.net(i == 0 ? 3 : i == 1 ? 255 : 192, i == 9 ? 9 : 1), i);
        }
        due.is("7: the eleventh", x.net(3, 1), FULL);
        due.is("7: BAD ahead of FULL", x.net(1, 1), BAD);
        due.is("7: ten", x.count(1), 10);
    }

    private static void wires() {
        ChipFloor x = new ChipFloor();
        x.net(7, 3);
        due.is("8: without blocks", x.wire(0, 0), 0);
        x.block(0, 4, 2);
        due.is("8: with one", x.wire(0, 0), 0);
        x.block(0, 2, 6);
        // middles (4, 2) and (10, 6)
        due.is("8: with two", x.wire(0, 0), 3 * (6 + 4));
        x.block(0, 1, 1);
        // the third middle is (13, 1)
        due.is("8: with three", x.wire(0, 0), 3 * (9 + 5));
        x.move(4, 1, 0);
        // block 1 over the others at (0, 0): middles (4, 2), (2, 6), (9, 1)
        due.is("8: on both layers", x.wire(0, 0), 3 * (7 + 5 + 2));
        x.rule(0, 9);
        due.is("8: POSTS", x.wire(0, 0), 3 * (7 + 5 + 18));
        x.move(4, 0, 0);
        x.move(4, 2, 0);
        due.is("8: all on LAYER 1", x.wire(0, 0), 3 * (9 + 5));
        x.net(192, 9);
        due.is("8: of blocks that there are not", x.wire(1, 0), 0);
        due.is("8: net -1", x.wire(-1, 0), BAD);
        due.is("8: net 2", x.wire(2, 0), BAD);
        due.is("8: what -1", x.wire(0, -1), BAD);
        due.is("8: what 3", x.wire(0, 3), BAD);
    }

    private static void guesses() {
        ChipFloor y = new ChipFloor();
        y.net(3, 7);
        y.block(0, 3, 1);
        due.is("8: the root of 3", y.wire(0, 1), 7 * 2);
        y.block(0, 1, 1);
        due.is("8: the root of 4", y.wire(0, 1), 7 * 2 * 2);
        ChipFloor x = new ChipFloor();
        x.net(131, 5);
        due.is("8: guess without blocks", x.wire(0, 1), 0);
        x.block(0, 5, 5);
        due.is("8: guess of one that there is", x.wire(0, 1), 5 * 2 * 5);
        due.is("8: miss of one that there is", x.wire(0, 2), -50);
        x.block(3, 3, 3);
        // rooms 25 and 10: the root of 35 is 5
        due.is("8: guess, cut", x.wire(0, 1), 50);
        x.block(0, 30, 30);
        due.is("8: not of others", x.wire(0, 1), 50);
        // middles (5, 5) and (13, 3)
        due.is("8: wire", x.wire(0, 0), 5 * (8 + 2));
        due.is("8: miss", x.wire(0, 2), 0);
    }
}
