/** Promises 28 to 35: sheet, mark, powers, copy, lay, ask, item, rest. */
public final class SheetsTest {
    private static final int BAD = ChipFloor.BAD, NO = ChipFloor.NO;
    private static final int NOTHING = ChipFloor.NOTHING, KIND = ChipFloor.KIND, INDEX = ChipFloor.INDEX, SIZE = ChipFloor.SIZE;
    private static final int LEAST = Integer.MIN_VALUE, MOST = Integer.MAX_VALUE;
    private static final Due due = new Due();

    public static void main(String[] args) {
        sheet();
        mark();
        powers();
        powersRefused();
        copy();
        copyRefused();
        lay();
        slotsHoldTheirOwn();
        ask();
        item();
        rest();
        due.end();
    }

    private static void sheet() {
        ChipFloor x = new ChipFloor();
        due.is("28: sheet -1", x.sheet(-1, 0, 1), BAD);
        due.is("28: sheet 4", x.sheet(4, 0, 1), BAD);
        due.is("28: sort -2", x.sheet(0, -2, 1), BAD);
        due.is("28: sort 3", x.sheet(0, 3, 1), BAD);
        due.is("28: 25", x.sheet(0, 0, 25), BAD);
        due.is("28: -1", x.sheet(0, 0, -1), SIZE);
        due.is("28: the least", x.sheet(3, 2, LEAST), SIZE);
        due.is("28: BAD ahead of SIZE", x.sheet(0, 3, -1), BAD);
        due.is("28: refused, missing still", x.mark(0, 0, 1), NOTHING);
        due.is("28: 0", x.sheet(0, 0, 0), 0);
        due.is("28: no place", x.mark(0, 0, 1), INDEX);
        for (int sort = 0; sort < 3; sort++) {
            due.is("28: 24", x.sheet(sort, sort, 24), 24);
            due.is("28: all 0", x.mark(sort, 23, 5), 0);
            x.mark(sort, 0, 6);
        }
        due.is("28: anew", x.sheet(1, 1, 24), 24);
        due.is("28: all 0 again", x.mark(1, 23, 7), 0);
        due.is("28: the first too", x.mark(1, 0, 7), 0);
        due.is("28: refused", x.sheet(1, 1, 25), BAD);
        due.is("28: refused, as it was", x.mark(1, 23, 7), 7);
        due.is("28: missing, n any", x.sheet(1, -1, 99), 0);
        due.is("28: missing again", x.mark(1, 0, 1), NOTHING);
        due.is("28: missing, n below 0", x.sheet(2, -1, -9), 0);
        due.is("28: sheet ahead", x.sheet(4, -1, 0), BAD);
    }

    private static void mark() {
        ChipFloor x = new ChipFloor();
        x.sheet(0, 0, 2);
        x.sheet(1, 1, 2);
        x.sheet(2, 2, 2);
        int[] marks = {70000, 40000, -1, -32769, LEAST, MOST, 0};
        int[] wasAlready = new int[3];
        for (int v : marks) {
            for (int sheet = 0; sheet < 3; sheet++) {
                due.is("29: what it was", x.mark(sheet, 1, v), wasAlready[sheet]);
                wasAlready[sheet] = sheet == 0 ? (short) v : v;
            }
        }
        due.is("29: other places stay", x.mark(1, 0, 0), 0);
        due.is("29: sheet -1", x.mark(-1, 0, 0), BAD);
        due.is("29: sheet 4", x.mark(4, 0, 0), BAD);
        due.is("29: missing", x.mark(3, 9, 0), NOTHING);
        due.is("29: place -1", x.mark(0, -1, 0), INDEX);
        due.is("29: place 2", x.mark(0, 2, 0), INDEX);
        due.is("29: the greatest place", x.mark(0, MOST, 0), INDEX);
        due.is("29: the least place", x.mark(0, LEAST, 0), INDEX);
    }

    private static ChipFloor threeBlocks() {
        ChipFloor x = new ChipFloor();
        for (int i = 0; i < 3; i++) {
            x.block(1, 3, 2);
        }
        return x;
    }

    private static void powers() {
        for (int sort = 0; sort < 3; sort++) {
            ChipFloor x = threeBlocks();
            x.sheet(1, sort, 5);
            x.mark(1, 1, 4);
            x.mark(1, 2, 0);
            x.mark(1, 3, 99);
            x.mark(1, 4, -1);
            due.is("30: two changed", x.powers(1, 1), 2);
            due.is("30: 0", x.told(0, 3), 4);
            due.is("30: 1", x.told(1, 3), 0);
            due.is("30: 2", x.told(2, 3), 99);
            due.is("30: none changed", x.powers(1, 1), 0);
            due.is("30: one is below 0", x.powers(1, 2), KIND);
            due.is("30: refused", x.told(0, 3), 4);
            x.mark(1, 0, 100);
            due.is("30: the first is above 99", x.powers(1, 0), KIND);
            x.mark(1, 0, 0);
            due.is("30: from 0 on", x.powers(1, 0), 3);
            due.is("30: 2", x.told(2, 3), 0);
        }
    }

    private static void powersRefused() {
        ChipFloor x = threeBlocks();
        due.is("30: missing", x.powers(0, 0), NOTHING);
        due.is("30: sheet -1", x.powers(-1, 0), BAD);
        due.is("30: sheet 4", x.powers(4, 0), BAD);
        x.sheet(0, 1, 4);
        x.mark(0, 3, 100);
        due.is("30: the last three", x.powers(0, 1), KIND);
        due.is("30: the last two", x.powers(0, 2), INDEX);
        due.is("30: place -1", x.powers(0, -1), INDEX);
        due.is("30: the greatest place", x.powers(0, MOST), INDEX);
        due.is("30: the least place", x.powers(0, LEAST), INDEX);
        x.sheet(0, 1, 2);
        due.is("30: too few places", x.powers(0, 0), INDEX);
        ChipFloor y = new ChipFloor();
        y.sheet(0, 0, 0);
        due.is("30: none of none", y.powers(0, 0), 0);
        due.is("30: behind the end", y.powers(0, 1), INDEX);
    }

    private static void rowIs(ChipFloor x, int sheet, int... row) {
        x.lay(4, 2, sheet);
        for (int i = 0; i < row.length; i++) {
            due.is("31: place " + i, x.item(4, i), row[i]);
        }
        due.is("31: no more places", x.item(4, row.length), INDEX);
    }

    private static void copy() {
        ChipFloor x = new ChipFloor();
        for (int sheet = 0; sheet < 2; sheet++) {
            x.sheet(sheet, 2, 5);
            for (int i = 0; i < 5; i++) {
                x.mark(sheet, i, 10 * sheet + i + 1);
            }
        }
        due.is("31: to another one", x.copy(0, 3, 1, 0, 2), 2);
        rowIs(x, 1, 4, 5, 13, 14, 15);
        rowIs(x, 0, 1, 2, 3, 4, 5);
        due.is("31: further on in the same", x.copy(0, 0, 0, 1, 4), 4);
        rowIs(x, 0, 1, 1, 2, 3, 4);
        due.is("31: further back in the same", x.copy(0, 2, 0, 0, 3), 3);
        rowIs(x, 0, 2, 3, 4, 3, 4);
        due.is("31: none, at the ends", x.copy(0, 5, 1, 5, 0), 0);
        due.is("31: all", x.copy(0, 0, 1, 0, 5), 5);
        rowIs(x, 1, 2, 3, 4, 3, 4);
    }

    private static void copyRefused() {
        ChipFloor x = new ChipFloor();
        x.sheet(0, 0, 5);
        x.sheet(1, 1, 5);
        x.sheet(2, 0, 3);
        int[][] bad = {{-1, 0}, {4, 0}, {0, -1}, {0, 4}};
        for (int[] b : bad) {
            due.is("31: copy(" + b[0] + ", 0, " + b[1] + ", 0, 1)", x.copy(b[0], 0, b[1], 0, 1), BAD);
        }
        due.is("31: from a missing one", x.copy(3, 0, 0, 0, 1), NOTHING);
        due.is("31: to a missing one", x.copy(0, 9, 3, 0, 1), NOTHING);
        due.is("31: unlike sorts", x.copy(0, 0, 1, 0, 1), KIND);
        due.is("31: KIND ahead of INDEX", x.copy(0, 9, 1, 0, 1), KIND);
        int[][] out = {{0, 0, 4}, {0, 1, 3}, {3, 0, 3}, {-1, 0, 1}, {0, -1, 1}, {0, 0, -1}, {6, 0, 0}, {0, 4, 0},
            {MOST, 0, 1}, {0, MOST, 1}, {0, 0, MOST}, {MOST, MOST, MOST}, {LEAST, 0, 1}, {0, LEAST, 1}, {0, 0, LEAST}};
        for (int[] o : out) {
            due.is("31: copy(0, " + o[0] + ", 2, " + o[1] + ", " + o[2] + ")", x.copy(0, o[0], 2, o[1], o[2]), INDEX);
        }
    }

    private static void lay() {
        ChipFloor x = threeBlocks();
        x.sheet(2, 1, 3);
        int[] things = {1, 2, 3, 0, 3, 2, 1, 1, 0, 0};
        int held = 0;
        for (int thing : things) {
            due.is("32: what it held", x.lay(4, thing, 2), held);
            held = thing;
        }
        due.is("32: slot -1", x.lay(-1, 0, 0), BAD);
        due.is("32: slot 5", x.lay(5, 0, 0), BAD);
        due.is("32: thing -1", x.lay(0, -1, 0), BAD);
        due.is("32: thing 4", x.lay(0, 4, 0), BAD);
        due.is("32: block -1", x.lay(0, 1, -1), BAD);
        due.is("32: block 3", x.lay(0, 1, 3), BAD);
        due.is("32: sheet -1", x.lay(0, 2, -1), BAD);
        due.is("32: sheet 4", x.lay(0, 2, 4), BAD);
        due.is("32: missing", x.lay(0, 2, 3), NOTHING);
        due.is("32: any number", x.lay(0, 3, LEAST), 0);
        due.is("32: refused", x.lay(0, 1, 3), BAD);
        due.is("32: nothing, k any", x.lay(0, 0, -77), 3);
    }

    private static void slotsHoldTheirOwn() {
        ChipFloor x = threeBlocks();
        x.sheet(0, 1, 2);
        x.mark(0, 1, 8);
        x.lay(0, 1, 0);
        x.lay(1, 2, 0);
        x.power(0, 9);
        x.mark(0, 1, 9);
        due.is("32: the block as it was then", x.ask(0, 0), 6);
        due.is("32: the sheet as it was then", x.item(1, 1), 8);
        x.sheet(0, -1, 0);
        due.is("32: though missing now", x.item(1, 1), 8);
        x.keep();
        x.block(0, 1, 1);
        x.lay(2, 1, 3);
        x.back();
        due.is("32: for good", x.ask(2, 0), 1);
        x.lay(0, 1, 0);
        due.is("32: as it is now", x.ask(0, 0), 15);
        x.lay(0, 2, 3);
        due.is("32: refused, as it was", x.ask(0, 0), 15);
    }

    private static void ask() {
        ChipFloor x = new ChipFloor();
        int[] worths = {6, 6 + 4, 6 - 1, 7 - 1, 2 * (6 + 4), 5};
        int[][] above = {{0}, {0, 1}, {0, 2}, {0, 2, 3}, {0, 1, 4}, {0, 5}};
        for (int kind = 0; kind < 6; kind++) {
            x.block(kind, 3, 2);
            x.power(kind, 4);
            if (kind == 2 || kind == 3) {
                x.move(3, kind, 0);
            }
        }
        for (int block = 0; block < 6; block++) {
            x.lay(1, 1, block);
            for (int kind = 0; kind < 6; kind++) {
                int want = KIND;
                for (int k : above[block]) {
                    want = k == kind ? worths[block] : want;
                }
                due.is("33: block " + block + " for one of " + kind, x.ask(1, kind), want);
            }
        }
        due.is("33: slot -1", x.ask(-1, 0), BAD);
        due.is("33: slot 5", x.ask(5, 0), BAD);
        due.is("33: kind -1", x.ask(1, -1), BAD);
        due.is("33: kind 6", x.ask(1, 6), BAD);
        due.is("33: BAD ahead of NOTHING", x.ask(0, 6), BAD);
        due.is("33: nothing", x.ask(0, 0), NOTHING);
        x.lay(0, 3, 5);
        due.is("33: a number", x.ask(0, 0), KIND);
        x.sheet(0, 0, 1);
        x.lay(0, 2, 0);
        due.is("33: a sheet", x.ask(0, 0), KIND);
    }

    private static void item() {
        ChipFloor x = threeBlocks();
        due.is("34: slot -1", x.item(-1, 0), BAD);
        due.is("34: slot 5", x.item(5, 0), BAD);
        due.is("34: nothing", x.item(0, 9), NOTHING);
        x.lay(0, 1, 0);
        due.is("34: a block", x.item(0, 9), KIND);
        x.lay(0, 3, 0);
        due.is("34: a number", x.item(0, 0), KIND);
        for (int sort = 0; sort < 3; sort++) {
            x.sheet(sort, sort, 24);
            x.mark(sort, 23, -70000);
            x.lay(sort, 2, sort);
            due.is("34: the last", x.item(sort, 23), sort == 0 ? (short) -70000 : -70000);
            due.is("34: the first", x.item(sort, 0), 0);
            due.is("34: place 24", x.item(sort, 24), INDEX);
            due.is("34: place -1", x.item(sort, -1), INDEX);
            due.is("34: the least place", x.item(sort, LEAST), INDEX);
        }
    }

    private static void rest() {
        ChipFloor x = threeBlocks();
        due.is("35: slot -1", x.rest(-1, 1), BAD);
        due.is("35: slot 5", x.rest(5, 1), BAD);
        due.is("35: nothing", x.rest(0, 0), NOTHING);
        x.lay(0, 1, 0);
        due.is("35: a block", x.rest(0, 0), KIND);
        x.sheet(0, 0, 1);
        x.lay(0, 2, 0);
        due.is("35: a sheet", x.rest(0, 1), KIND);
        x.lay(0, 3, -17);
        due.is("35: 0", x.rest(0, 0), NO);
        due.is("35: by 5", x.rest(0, 5), -2);
        due.is("35: by -5", x.rest(0, -5), -2);
        x.lay(0, 3, 17);
        due.is("35: by -5", x.rest(0, -5), 2);
        x.lay(0, 3, LEAST);
        due.is("35: the least by -1", x.rest(0, -1), 0);
        due.is("35: the least by 10", x.rest(0, 10), -8);
    }
}
