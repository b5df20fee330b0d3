/** Promises 25 to 27: stow, stowed, front. */
final class EdgesOfKept {
    private static final int BAD = ChipFloor.BAD, FULL = ChipFloor.FULL;
    private static final int LEAST = Edges.LEAST, MOST = Edges.MOST;
    private final Edges e;

    EdgesOfKept(Edges e) {
        this.e = e;
    }

    void all() {
        stow();
        stowWithoutBlocks();
        stowed();
        asTheyWere();
        beaten();
        front();
    }

    private void stow() {
        e.says(25, "KEPT LAYINGS, 8 at most, numbered from 0");
        ChipFloor x = new ChipFloor();
        for (int i = 0; i < 8; i++) {
            e.due(i, x, "stow");
            e.due(i + 1, x, "count", 4);
        }
        e.due(FULL, x, "stow");
        e.due(8, x, "count", 4);
        e.says(25, "The LAYING is KEPT: its number. FULL.");
        e.refused(FULL, States::full, "stow");
        ChipFloor y = States.some();
        e.due(2, y, "stow");
        e.due(3, y, "count", 5);
    }

    private void stowWithoutBlocks() {
        e.says(25, "and THE HOTTEST's HEAT (0 without BLOCKS)");
        ChipFloor x = new ChipFloor();
        x.net(3, 9);
        e.due(0, x, "stow");
        for (int what = 0; what < 4; what++) {
            e.due(0, x, "stowed", 0, what);
        }
        x.block(0, 2, 3);
        e.due(1, x, "stow");
        e.due(0, x, "stowed", 1, 2);
        x.power(0, 99);
        e.due(2, x, "stow");
        e.due(396, x, "stowed", 2, 2);
        // behind blocks again none
        ChipFloor y = new ChipFloor();
        y.keep();
        y.block(0, 2, 3);
        y.power(0, 9);
        y.back();
        e.due(0, y, "stow");
        e.due(0, y, "stowed", 0, 2);
        e.due(0, y, "stowed", 0, 0);
    }

    private void stowed() {
        e.says(26, "Of a KEPT LAYING: what 0 THE WIDTH times THE HEIGHT, 1 WIRES, 2 HEAT, 3 whether it is BEATEN (1, 0). BAD.");
        for (int laying : new int[] {-1, 8, LEAST, MOST}) {
            e.refusedInAllStates(BAD, "stowed", laying, 0);
        }
        for (int what : new int[] {-1, 4, LEAST, MOST}) {
            e.refused(BAD, States::some, "stowed", 1, what);
            e.refused(BAD, States::full, "stowed", 7, what);
        }
        e.refused(BAD, States::fresh, "stowed", 0, 0);
        e.refused(BAD, States::some, "stowed", 2, 0);
        e.due(1, States.full(), "stowed", 7, 3);
        e.due(0, States.full(), "stowed", 0, 3);
        e.due(BAD, States.full(), "stowed", 0, 4);
    }

    private void asTheyWere() {
        e.says(26, "THE WIDTH times THE HEIGHT, WIRES, and THE HOTTEST's HEAT (0 without BLOCKS) as they were");
        ChipFloor x = Edges.with(0, 4, 3, 0, 2, 5);
        x.net(3, 4);
        x.power(0, 3);
        x.power(1, 5);
        x.stow();
        x.power(0, 50);
        x.move(0, 0, 1);
        x.rule(1, 9);
        x.rule(0, 9);
        x.block(0, 30, 30);
        x.net(7, 9);
        int[] were = {30, 32, 23};
        for (int what = 0; what < 3; what++) {
            e.due(were[what], x, "stowed", 0, what);
        }
    }

    /** Kept layings, told by THE WIDTH (all are 1 high), POSTS and the power of block 0, of which WIRES and HEAT come. */
    private static ChipFloor kept(int[][] threes) {
        ChipFloor x = Edges.with(0, 1, 1, 0, 1, 1);
        x.net(3, 1);
        x.move(4, 1, 0);
        for (int[] three : threes) {
            x.power(0, three[2]);
            x.rule(0, three[1]);
            grow(x, three[0]);
            x.stow();
        }
        return x;
    }

    /** Block 2 is SOFT on LAYER 1, so its shape tells THE WIDTH: 2 to 7, 1 high. */
    private static void grow(ChipFloor x, int wide) {
        if (x.count(0) < 3) {
            x.block(2, 1, 1);
            x.move(4, 2, 0);
        }
        while (x.whole(0) != wide) {
            x.move(3, 2, 0);
        }
    }

    private void beaten() {
        e.says(26, "BEATEN is one if another is not greater in any of the three, and less in one.");
        int[] middle = {4, 5, 20};
        for (int code = 0; code < 27; code++) {
            int[] other = {middle[0] + code % 3 - 1, middle[1] + code / 3 % 3 - 1, middle[2] + code / 9 - 1};
            boolean greater = false, less = false;
            for (int i = 0; i < 3; i++) {
                greater |= other[i] > middle[i];
                less |= other[i] < middle[i];
            }
            for (int turn = 0; turn < 2; turn++) {
                ChipFloor x = kept(turn == 0 ? new int[][] {middle, other} : new int[][] {other, middle});
                e.due(!greater && less ? 1 : 0, x, "stowed", turn, 3);
                e.due(!less && greater ? 1 : 0, x, "stowed", 1 - turn, 3);
                int bits = (!greater && less ? 0 : 1 << turn) | (!less && greater ? 0 : 1 << 1 - turn);
                e.due(bits, x, "front");
            }
        }
    }

    private void front() {
        e.says(27, "THE FRONT: those that are not BEATEN (bits).");
        e.due(0, new ChipFloor(), "front");
        ChipFloor x = new ChipFloor();
        for (int i = 0; i < 8; i++) {
            x.stow();
            e.due((1 << i + 1) - 1, x, "front");
        }
        e.due(FULL, x, "stow");
        e.due(255, x, "front");
        ChipFloor y = Edges.with(0, 1, 1);
        for (int i = 0; i < 8; i++) {
            y.power(0, 90 - i);
            y.stow();
            e.due(1 << i, y, "front");
        }
        ChipFloor z = Edges.with(0, 1, 1);
        for (int i = 0; i < 8; i++) {
            z.power(0, 90 + i);
            z.stow();
            e.due(1, z, "front");
        }
        // one that is beaten may beat another
        ChipFloor w = Edges.with(0, 1, 1);
        for (int power : new int[] {5, 9, 7, 5}) {
            w.power(0, power);
            w.stow();
        }
        e.due(9, w, "front");
    }
}
