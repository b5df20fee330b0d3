import java.util.function.Supplier;

/** Promises 28 to 35: sheet, mark, powers, copy, lay, ask, item, rest. */
final class EdgesOfSheets {
    private static final int BAD = ChipFloor.BAD, NO = ChipFloor.NO;
    private static final int NOTHING = ChipFloor.NOTHING, KIND = ChipFloor.KIND, INDEX = ChipFloor.INDEX, SIZE = ChipFloor.SIZE;
    private static final int LEAST = Edges.LEAST, MOST = Edges.MOST;
    private static final int[][] KINDS_ABOVE = {{0}, {0, 1}, {0, 2}, {0, 2, 3}, {0, 1, 4}, {0, 5}};
    private final Edges e;

    EdgesOfSheets(Edges e) {
        this.e = e;
    }

    void all() {
        sheetRefused();
        sheetSizes();
        sheetAnew();
        markRefused();
        markShorts();
        markInts();
        powersRefused();
        powersTaken();
        powersOfNone();
        powersOfAll();
        copyRefused();
        copyPlaces();
        copyWithin();
        layRefused();
        layHeld();
        slotsHoldTheirOwn();
        ask();
        itemRefused();
        items();
        restRefused();
        rests();
    }

    private void sheetRefused() {
        e.says(28, "BAD: sheet, sort, n above 24; SIZE.");
        for (int sheet : new int[] {-1, 4, LEAST, MOST}) {
            e.refusedInAllStates(BAD, "sheet", sheet, 0, 1);
            e.refused(BAD, States::some, "sheet", sheet, -1, 0);
            e.refused(BAD, States::some, "sheet", sheet, 0, -1);
        }
        for (int sort : new int[] {-2, 3, LEAST, MOST}) {
            e.refusedInAllStates(BAD, "sheet", 0, sort, 1);
            e.refused(BAD, States::some, "sheet", 0, sort, -1);
        }
        for (int sort = 0; sort < 3; sort++) {
            e.refusedInAllStates(BAD, "sheet", 0, sort, 25);
            e.refused(BAD, States::some, "sheet", 3, sort, MOST);
        }
        e.says(28, "SIZE: a number of places is below 0");
        for (int sort = 0; sort < 3; sort++) {
            e.refusedInAllStates(SIZE, "sheet", 0, sort, -1);
            e.refused(SIZE, States::some, "sheet", 3, sort, LEAST);
        }
    }

    private void sheetSizes() {
        e.says(28, "SHEETS 0 .. 3 are rows of shorts (sort 0), ints (1) or longs (2), with 0 to 24 places, or MISSING (at first).");
        for (int sheet = 0; sheet < 4; sheet++) {
            for (int sort = 0; sort < 3; sort++) {
                for (int n : new int[] {0, 1, 23, 24}) {
                    ChipFloor x = new ChipFloor();
                    e.due(NOTHING, x, "mark", sheet, 0, 1);
                    e.due(n, x, "sheet", sheet, sort, n);
                    e.due(INDEX, x, "mark", sheet, n, 1);
                    e.due(n == 0 ? INDEX : 0, x, "mark", sheet, n - 1, 1);
                    for (int other = 0; other < 4; other++) {
                        e.due(other == sheet ? INDEX : NOTHING, x, "mark", other, 24, 1);
                    }
                }
            }
        }
    }

    private void sheetAnew() {
        e.says(28, "A SHEET becomes a row of n places of a sort, all 0 (sort -1: MISSING, n any): n (0).");
        for (int n : new int[] {0, 1, 24, 25, -1, LEAST, MOST}) {
            ChipFloor x = States.full();
            e.due(0, x, "sheet", 1, -1, n);
            e.due(NOTHING, x, "mark", 1, 0, 0);
            e.due(0, x, "sheet", 1, -1, n);
            e.due(66, x, "mark", 2, 0, 0);
        }
        ChipFloor x = new ChipFloor();
        for (int round = 0; round < 3; round++) {
            // longer than ahead, or shorter and long again
            for (int n : new int[] {3, 24, 2, 24}) {
                e.due(n, x, "sheet", 2, round, n);
                for (int place = 0; place < n; place++) {
                    e.due(0, x, "mark", 2, place, 7 + place);
                }
            }
        }
        x.sheet(2, -1, 0);
        x.sheet(2, 1, 24);
        for (int place = 0; place < 24; place++) {
            e.due(0, x, "mark", 2, place, 0);
        }
    }

    private void markRefused() {
        e.says(29, "BAD: sheet; NOTHING; INDEX.");
        for (int sheet : new int[] {-1, 4, LEAST, MOST}) {
            e.refusedInAllStates(BAD, "mark", sheet, 0, 1);
            e.refused(BAD, States::some, "mark", sheet, 99, 1);
        }
        e.says(29, "FINDINGS: NOTHING: a SHEET is MISSING, a SLOT holds nothing");
        for (int sheet = 2; sheet < 4; sheet++) {
            for (int place : new int[] {0, -1, 24, LEAST, MOST}) {
                e.refused(NOTHING, States::some, "mark", sheet, place, 1);
            }
        }
        e.refused(NOTHING, States::fresh, "mark", 0, 0, 1);
        e.says(29, "INDEX: there is no such place");
        for (int place : new int[] {-1, 24, LEAST, MOST}) {
            for (int sheet = 0; sheet < 4; sheet++) {
                e.refused(INDEX, States::full, "mark", sheet, place, 1);
            }
        }
        e.refused(INDEX, States::some, "mark", 0, 3, 1);
        e.refused(INDEX, States::some, "mark", 1, 4, 1);
        e.refused(INDEX, () -> {
            ChipFloor x = States.some();
            x.sheet(2, 2, 0);
            return x;
        }, "mark", 2, 0, 1);
        e.due(9, States.some(), "mark", 0, 2, 1);
        e.due(0, States.some(), "mark", 1, 3, 1);
    }

    private void markShorts() {
        e.says(29, "A place of a SHEET becomes v (of shorts its lowest 16 bits): what it was");
        int[][] rows = {{32767, 32767}, {32768, -32768}, {65535, -1}, {65536, 0}, {65537, 1}, {-1, -1}, {-32768, -32768}, {-32769, 32767}, {70000, 4464}, {MOST, -1}, {LEAST, 0}, {0, 0}};
        ChipFloor x = new ChipFloor();
        x.sheet(0, 0, 24);
        int was = 0;
        for (int[] row : rows) {
            e.due(was, x, "mark", 0, 23, row[0]);
            was = row[1];
        }
        e.due(0, x, "mark", 0, 22, 0);
        e.due(0, x, "mark", 0, 0, 0);
    }

    private void markInts() {
        e.says(29, "what it was (of longs its lowest 32 bits)");
        int[] values = {MOST, LEAST, -1, 65536, 32768, 1, 0, ChipFloor.BAD};
        for (int sort = 1; sort < 3; sort++) {
            ChipFloor x = new ChipFloor();
            x.sheet(3, sort, 24);
            int was = 0;
            for (int v : values) {
                e.due(was, x, "mark", 3, 0, v);
                was = v;
            }
            e.due(0, x, "mark", 3, 1, 5);
            e.due(was, x, "mark", 3, 0, 0);
        }
    }

    /** Three blocks with powers 1, 2, 3 and a sheet 0 of that sort with these numbers. */
    private static Supplier<ChipFloor> lined(int sort, int... numbers) {
        return () -> {
            ChipFloor x = States.some();
            x.power(0, 1);
            x.power(1, 2);
            x.power(2, 3);
            x.sheet(0, sort, numbers.length);
            for (int i = 0; i < numbers.length; i++) {
                x.mark(0, i, numbers[i]);
            }
            return x;
        };
    }

    private void powersRefused() {
        e.says(30, "BAD: sheet; NOTHING; INDEX: it has not so many from there on; KIND: one of them is not 0 .. 99.");
        for (int sheet : new int[] {-1, 4, LEAST, MOST}) {
            e.refusedInAllStates(BAD, "powers", sheet, 0);
            e.refused(BAD, States::some, "powers", sheet, -1);
        }
        e.refused(NOTHING, States::fresh, "powers", 0, 0);
        for (int place : new int[] {0, -1, 24, LEAST, MOST}) {
            e.refused(NOTHING, States::some, "powers", 2, place);
        }
        for (int sort = 0; sort < 3; sort++) {
            for (int place : new int[] {-1, 2, 3, 4, 5, 24, LEAST, MOST, MOST - 2}) {
                e.refused(INDEX, lined(sort, 4, 5, 6, 7), "powers", 0, place);
                // INDEX ahead of KIND
                e.refused(INDEX, lined(sort, -1, -1, -1, -1), "powers", 0, place);
            }
            e.refused(INDEX, lined(sort, 4, 5), "powers", 0, 0);
            e.refused(INDEX, lined(sort), "powers", 0, 0);
            for (int bad : new int[] {-1, 100, sort == 0 ? -32768 : LEAST, sort == 0 ? 32767 : MOST}) {
                for (int where = 0; where < 3; where++) {
                    int[] row = {50, 0, 99, 1, 50};
                    row[1 + where] = bad;
                    e.refused(KIND, lined(sort, row), "powers", 0, 1);
                }
            }
        }
    }

    private void powersTaken() {
        e.says(30, "POWERS of BLOCKS 0, 1, .. (of all that there are) become the numbers of a SHEET from a place on: how many changed.");
        for (int sort = 0; sort < 3; sort++) {
            int[][] rows = {{1, 2, 3, 0}, {0, 2, 3, 1}, {1, 2, 99, 1}, {0, 99, 3, 2}, {99, 99, 99, 3}, {0, 0, 0, 3}};
            for (int[] row : rows) {
                // what stands around them may be anything
                ChipFloor x = lined(sort, 100, row[0], row[1], row[2], -1).get();
                e.due(row[3], x, "powers", 0, 1);
                for (int block = 0; block < 3; block++) {
                    e.due(row[block], x, "told", block, 3);
                }
                e.due(0, x, "powers", 0, 1);
            }
            ChipFloor last = lined(sort, -1, -1, 9, 8, 7).get();
            e.due(3, last, "powers", 0, 2);
            e.due(7, last, "told", 2, 3);
            ChipFloor all = lined(sort, 9, 8, 7).get();
            e.due(3, all, "powers", 0, 0);
            e.due(9, all, "told", 0, 3);
            e.due(3, all, "count", 5);
        }
        // shorts keep what their lowest 16 bits are
        ChipFloor x = lined(0, 65536, 65536 + 99, -65535).get();
        e.due(3, x, "powers", 0, 0);
        e.due(99, x, "told", 1, 3);
        e.due(1, x, "told", 2, 3);
    }

    private void powersOfNone() {
        e.says(30, "INDEX: it has not so many from there on");
        for (int n : new int[] {0, 6, 24}) {
            ChipFloor x = new ChipFloor();
            x.sheet(1, 1, n);
            x.tell(5);
            for (int place = 0; place <= n; place++) {
                e.due(0, x, "powers", 1, place);
            }
            e.due(INDEX, x, "powers", 1, n + 1);
            e.due(INDEX, x, "powers", 1, -1);
            e.due(INDEX, x, "powers", 1, LEAST);
            e.due(INDEX, x, "powers", 1, MOST);
        }
    }

    private void powersOfAll() {
        e.says(30, "(of all that there are)");
        ChipFloor x = new ChipFloor();
        x.sheet(0, 2, 24);
        for (int place = 0; place < 24; place++) {
            x.mark(0, place, 10 + place);
        }
        for (int many = 1; many <= 8; many++) {
            x.block(0, 1, 1);
            e.due(many, x, "powers", 0, 24 - many);
            e.due(33, x, "told", many - 1, 3);
            e.due(34 - many, x, "told", 0, 3);
            e.due(INDEX, x, "powers", 0, 25 - many);
        }
    }

    private void copyRefused() {
        e.says(31, "BAD; NOTHING; KIND: they are not of one sort; INDEX.");
        for (int sheet : new int[] {-1, 4, LEAST, MOST}) {
            e.refusedInAllStates(BAD, "copy", sheet, 0, 0, 0, 1);
            e.refusedInAllStates(BAD, "copy", 0, 0, sheet, 0, 1);
            e.refused(BAD, States::some, "copy", sheet, 99, 3, 99, -1);
            e.refused(BAD, States::some, "copy", 3, 99, sheet, 99, -1);
        }
        e.refused(NOTHING, States::fresh, "copy", 0, 0, 0, 0, 0);
        for (int many : new int[] {0, 1, -1, 99}) {
            e.refused(NOTHING, States::some, "copy", 0, 0, 2, 0, many);
            e.refused(NOTHING, States::some, "copy", 2, 0, 0, 0, many);
            e.refused(NOTHING, States::some, "copy", 2, 99, 3, 99, many);
        }
        for (int from = 0; from < 4; from++) {
            for (int to = 0; to < 4; to++) {
                if (from % 3 != to % 3) {
                    e.refused(KIND, States::full, "copy", from, 0, to, 0, 1);
                    e.refused(KIND, States::full, "copy", from, 0, to, 0, 0);
                    e.refused(KIND, States::full, "copy", from, -1, to, 99, -1);
                } else {
                    e.due(24, States.full(), "copy", from, 0, to, 0, 24);
                    e.refused(INDEX, States::full, "copy", from, 0, to, 0, 25);
                    e.refused(INDEX, States::full, "copy", from, 0, to, 0, -1);
                    e.refused(INDEX, States::full, "copy", from, -1, to, 0, 1);
                    e.refused(INDEX, States::full, "copy", from, 0, to, -1, 1);
                    e.refused(INDEX, States::full, "copy", from, 24, to, 0, 1);
                    e.refused(INDEX, States::full, "copy", from, 0, to, 24, 1);
                }
            }
        }
    }

    private static ChipFloor fiveAndThree() {
        ChipFloor x = new ChipFloor();
        x.sheet(0, 1, 5);
        x.sheet(1, 1, 3);
        for (int i = 0; i < 5; i++) {
            x.mark(0, i, 11 + i);
            x.mark(1, i, 21 + i);
        }
        return x;
    }

    private void rowIs(ChipFloor x, int sheet, int[] row) {
        x.lay(4, 2, sheet);
        for (int i = 0; i < row.length; i++) {
            e.due(row[i], x, "item", 4, i);
        }
        e.due(INDEX, x, "item", 4, row.length);
    }

    private void copyPlaces() {
        e.says(31, "So many places of a SHEET come to another one (or the same), as they were: many.");
        int[] values = {LEAST, -1, 0, 1, 2, 3, 4, 5, 6, MOST};
        for (int place : values) {
            for (int at : values) {
                for (int many : values) {
                    boolean can = place >= 0 && at >= 0 && many >= 0 && (long) place + many <= 5 && (long) at + many <= 3;
                    ChipFloor x = fiveAndThree();
                    e.due(can ? many : INDEX, x, "copy", 0, place, 1, at, many);
                    int[] row = {21, 22, 23};
                    for (int i = 0; can && i < many; i++) {
                        row[at + i] = 11 + place + i;
                    }
                    rowIs(x, 1, row);
                    rowIs(x, 0, new int[] {11, 12, 13, 14, 15});
                }
            }
        }
    }

    private void copyWithin() {
        e.says(31, "(or the same), as they were");
        for (int sort = 0; sort < 3; sort++) {
            for (int place = 0; place <= 5; place++) {
                for (int at = 0; at <= 5; at++) {
                    for (int many = 0; many <= 6 - Math.max(place, at); many++) {
                        ChipFloor x = new ChipFloor();
                        x.sheet(2, sort, 5);
                        int[] row = new int[5];
                        for (int i = 0; i < 5; i++) {
                            x.mark(2, i, 31 + i);
                            row[i] = 31 + i;
                        }
                        boolean can = many <= 5 - Math.max(place, at);
                        e.due(can ? many : INDEX, x, "copy", 2, place, 2, at, many);
                        for (int i = 0; can && i < many; i++) {
                            row[at + i] = 31 + place + i;
                        }
                        rowIs(x, 2, row);
                    }
                }
            }
        }
        // a row of shorts, ints or longs hands on all of each number
        for (int sort = 0; sort < 3; sort++) {
            ChipFloor x = new ChipFloor();
            x.sheet(0, sort, 2);
            x.sheet(1, sort, 2);
            x.mark(0, 1, sort == 0 ? -32768 : LEAST);
            e.due(1, x, "copy", 0, 1, 1, 0, 1);
            e.due(sort == 0 ? -32768 : LEAST, x, "mark", 1, 0, 0);
            e.due(0, x, "mark", 1, 1, 0);
        }
    }

    private void layRefused() {
        e.says(32, "BAD: slot, thing, k; NOTHING: that SHEET is MISSING.");
        for (int slot : new int[] {-1, 5, LEAST, MOST}) {
            e.refusedInAllStates(BAD, "lay", slot, 0, 0);
            // BAD ahead of NOTHING
            e.refused(BAD, States::some, "lay", slot, 2, 3);
        }
        for (int thing : new int[] {-1, 4, LEAST, MOST}) {
            e.refusedInAllStates(BAD, "lay", 0, thing, 0);
        }
        for (int k : new int[] {-1, 8, LEAST, MOST}) {
            e.refusedInAllStates(BAD, "lay", 0, 1, k);
        }
        for (int k : new int[] {-1, 4, LEAST, MOST}) {
            e.refusedInAllStates(BAD, "lay", 0, 2, k);
        }
        e.refused(BAD, States::fresh, "lay", 0, 1, 0);
        e.refused(BAD, States::some, "lay", 1, 1, 3);
        for (int k = 0; k < 4; k++) {
            e.refused(NOTHING, States::fresh, "lay", 0, 2, k);
        }
        for (int slot = 0; slot < 5; slot++) {
            e.refused(NOTHING, States::some, "lay", slot, 2, 2);
            e.refused(NOTHING, States::some, "lay", slot, 2, 3);
        }
    }

    private void layHeld() {
        e.says(32, "A SLOT holds: thing 0 nothing, 1 BLOCK k, 2 SHEET k, 3 the number k: what it held (0 .. 3).");
        for (int slot = 0; slot < 5; slot++) {
            ChipFloor x = States.full();
            x.lay(slot, 0, 0);
            for (int ahead = 0; ahead < 4; ahead++) {
                for (int then = 0; then < 4; then++) {
                    x.lay(slot, ahead, 3);
                    e.due(ahead, x, "lay", slot, then, 3);
                    e.due(then, x, "lay", slot, 0, 0);
                }
            }
        }
        ChipFloor x = States.full();
        for (int k : new int[] {0, 7}) {
            x.lay(0, 0, 0);
            e.due(0, x, "lay", 0, 1, k);
            e.due(k == 0 ? 15 : x.told(7, 9), x, "ask", 0, 0);
        }
        for (int k : new int[] {0, 3}) {
            x.lay(0, 0, 0);
            e.due(0, x, "lay", 0, 2, k);
            e.due(33 * k, x, "item", 0, 0);
        }
        for (int k : new int[] {0, -1, LEAST, MOST}) {
            x.lay(0, 0, k);
            e.due(0, x, "lay", 0, 3, k);
            e.due(k % 1000, x, "rest", 0, 1000);
            e.due(3, x, "lay", 0, 0, k);
            e.due(NOTHING, x, "rest", 0, 1000);
        }
    }

    private void slotsHoldTheirOwn() {
        e.says(32, "a BLOCK (as it is then, for good), a SHEET (a row of its own, as it was then), or a number");
        ChipFloor x = Edges.with(1, 3, 2, 2, 4, 4);
        x.keep();
        x.sheet(0, 1, 2);
        x.mark(0, 1, 8);
        x.lay(0, 1, 0);
        x.lay(1, 2, 0);
        x.lay(2, 1, 1);
        x.lay(3, 2, 0);
        x.power(0, 9);
        x.move(3, 1, 0);
        x.mark(0, 1, 9);
        e.due(6, x, "ask", 0, 1);
        e.due(16, x, "ask", 2, 2);
        e.due(8, x, "item", 1, 1);
        x.lay(2, 1, 1);
        e.due(15, x, "ask", 2, 2);
        // the sheet becomes another one, or MISSING
        x.sheet(0, 0, 24);
        e.due(INDEX, x, "item", 1, 2);
        e.due(8, x, "item", 1, 1);
        x.sheet(0, -1, 0);
        e.due(8, x, "item", 1, 1);
        e.due(8, x, "item", 3, 1);
        x.lay(3, 3, 5);
        e.due(8, x, "item", 1, 1);
        // all is as THE IMAGE again, and other blocks come
        x.block(0, 30, 30);
        x.lay(4, 1, 2);
        x.back();
        e.due(900, x, "ask", 4, 0);
        x.block(4, 1, 1);
        e.due(900, x, "ask", 4, 0);
        e.due(KIND, x, "ask", 4, 4);
        e.due(6, x, "ask", 0, 1);
        e.due(15, x, "ask", 2, 2);
        // the same thing in two slots is two things
        x.sheet(1, 0, 1);
        x.mark(1, 0, 5);
        x.lay(0, 2, 1);
        x.mark(1, 0, 6);
        x.lay(1, 2, 1);
        e.due(5, x, "item", 0, 0);
        e.due(6, x, "item", 1, 0);
    }

    private void ask() {
        e.says(33, "WORTH of the BLOCK in a SLOT, taken for one of a KIND (0 .. 5). BAD; NOTHING; KIND: it is no BLOCK, or not of that KIND, nor of one under it.");
        for (int slot : new int[] {-1, 5, LEAST, MOST}) {
            e.refusedInAllStates(BAD, "ask", slot, 0);
        }
        for (int kind : new int[] {-1, 6, LEAST, MOST}) {
            for (int slot = 0; slot < 5; slot++) {
                // BAD ahead of NOTHING and KIND
                e.refused(BAD, States::some, "ask", slot, kind);
            }
        }
        for (int kind = 0; kind < 6; kind++) {
            e.refused(NOTHING, States::fresh, "ask", 0, kind);
            e.refused(NOTHING, States::some, "ask", 4, kind);
            e.refused(KIND, States::some, "ask", 1, kind);
            e.refused(KIND, States::some, "ask", 2, kind);
        }
        int[] worths = {6, 6 + 99, 6 - 1, 7 - 1, 2 * (6 + 99), 5};
        for (int block = 0; block < 6; block++) {
            ChipFloor x = Edges.with(block, 3, 2);
            x.power(0, 99);
            x.move(3, 0, 0);
            x.lay(4, 1, 0);
            for (int kind = 0; kind < 6; kind++) {
                int want = KIND;
                for (int above : KINDS_ABOVE[block]) {
                    want = above == kind ? worths[block] : want;
                }
                e.due(want, x, "ask", 4, kind);
            }
        }
        e.refused(KIND, States::some, "ask", 0, 4);
        e.refused(KIND, States::full, "ask", 4, 5);
        e.due(States.full().told(4, 9), States.full(), "ask", 4, 4);
    }

    private void itemRefused() {
        e.says(34, "A place of the SHEET in a SLOT. BAD: slot; NOTHING; KIND: it is no SHEET; INDEX.");
        for (int slot : new int[] {-1, 5, LEAST, MOST}) {
            e.refusedInAllStates(BAD, "item", slot, 0);
            e.refused(BAD, States::some, "item", slot, -1);
        }
        for (int place : new int[] {0, -1, 24, LEAST, MOST}) {
            e.refused(NOTHING, States::fresh, "item", 0, place);
            e.refused(NOTHING, States::some, "item", 3, place);
            e.refused(NOTHING, States::some, "item", 4, place);
            e.refused(KIND, States::some, "item", 0, place);
            e.refused(KIND, States::some, "item", 2, place);
        }
        for (int place : new int[] {-1, 4, 24, LEAST, MOST}) {
            e.refused(INDEX, States::some, "item", 1, place);
        }
        e.due(102, States.some(), "item", 1, 2);
        e.due(0, States.some(), "item", 1, 3);
    }

    private void items() {
        e.says(34, "A place of the SHEET in a SLOT.");
        for (int sort = 0; sort < 3; sort++) {
            for (int n : new int[] {0, 1, 24}) {
                ChipFloor x = new ChipFloor();
                x.sheet(3, sort, n);
                for (int place = 0; place < n; place++) {
                    x.mark(3, place, place == n - 1 ? -70000 : place);
                }
                x.lay(4, 2, 3);
                for (int place = 0; place < n; place++) {
                    int last = sort == 0 ? (short) -70000 : -70000;
                    e.due(place == n - 1 ? last : place, x, "item", 4, place);
                }
                e.due(INDEX, x, "item", 4, n);
                e.due(INDEX, x, "item", 4, -1);
            }
        }
    }

    private void restRefused() {
        e.says(35, "BAD: slot; NOTHING; KIND: it is no number; NO: n is 0.");
        for (int slot : new int[] {-1, 5, LEAST, MOST}) {
            e.refusedInAllStates(BAD, "rest", slot, 1);
            e.refusedInAllStates(BAD, "rest", slot, 0);
        }
        for (int n : new int[] {0, 1, -1, LEAST}) {
            e.refused(NOTHING, States::fresh, "rest", 0, n);
            e.refused(NOTHING, States::some, "rest", 4, n);
            e.refused(KIND, States::some, "rest", 0, n);
            e.refused(KIND, States::some, "rest", 1, n);
        }
        e.refused(NO, States::some, "rest", 2, 0);
        e.refused(NO, States::full, "rest", 2, 0);
        e.refused(NO, () -> {
            ChipFloor x = States.some();
            x.lay(4, 3, 0);
            return x;
        }, "rest", 4, 0);
    }

    private void rests() {
        e.says(35, "The rest of the number in a SLOT by n.");
        int[][] rows = {{17, 5, 2}, {-17, 5, -2}, {17, -5, 2}, {-17, -5, -2}, {5, 5, 0}, {4, 5, 4}, {-4, 5, -4}, {0, 7, 0}, {7, 1, 0}, {7, -1, 0},
            {LEAST, -1, 0}, {LEAST, 1, 0}, {LEAST, LEAST, 0}, {LEAST, MOST, -1}, {MOST, LEAST, MOST}, {MOST, MOST, 0}, {-1, LEAST, -1}, {LEAST, 10, -8}};
        for (int[] row : rows) {
            ChipFloor x = new ChipFloor();
            x.lay(4, 3, row[0]);
            e.due(row[2], x, "rest", 4, row[1]);
            e.due(row[2], x, "rest", 4, row[1]);
        }
    }
}
