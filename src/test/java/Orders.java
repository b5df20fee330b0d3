import java.util.ArrayList;
import java.util.List;

/** Layings of few blocks in all orders, and what the document's words make of one, worked out the slow way. */
final class Orders {
    final int[] one;
    final int[] other;
    private final int[] layers;

    private Orders(int[] one, int[] other, int[] layers) {
        this.one = one;
        this.other = other;
        this.layers = layers;
    }

    /** Every pair of orders of as many blocks as there are layers told. */
    static List<Orders> all(int... layers) {
        List<int[]> rows = new ArrayList<>();
        addRows(rows, new int[layers.length], 0);
        List<Orders> all = new ArrayList<>();
        for (int[] one : rows) {
            for (int[] other : rows) {
                all.add(new Orders(one, other, layers));
            }
        }
        return all;
    }

    private static void addRows(List<int[]> rows, int[] row, int filled) {
        if (filled == row.length) {
            rows.add(row.clone());
            return;
        }
        for (int block = 0; block < row.length; block++) {
            if (placeOf(row, filled, block) < 0) {
                row[filled] = block;
                addRows(rows, row, filled + 1);
            }
        }
    }

    private static int placeOf(int[] row, int length, int block) {
        for (int i = 0; i < length; i++) {
            if (row[i] == block) {
                return i;
            }
        }
        return -1;
    }

    /** A new object's blocks come to stand so. */
    ChipFloor laid(ChipFloor x) {
        for (int i = 0; i < one.length; i++) {
            bring(x, 0, i, one[i]);
            bring(x, 1, i, other[i]);
            if (layers[i] == 1) {
                x.move(4, i, 0);
            }
        }
        return x;
    }

    private static void bring(ChipFloor x, int row, int place, int block) {
        int from = place;
        while (x.at(row, from) != block) {
            from++;
        }
        x.move(row, place, from);
    }

    boolean isLeft(int i, int j) {
        return layers[i] == layers[j] && isAhead(one, i, j) && isAhead(other, i, j);
    }

    boolean isBelow(int i, int j) {
        return layers[i] == layers[j] && isAhead(one, j, i) && isAhead(other, i, j);
    }

    private static boolean isAhead(int[] row, int i, int j) {
        return placeOf(row, row.length, i) < placeOf(row, row.length, j);
    }

    /** How i stands to j, as promise 11 tells it. */
    int standing(int i, int j) {
        if (isLeft(i, j)) {
            return 0;
        }
        if (isBelow(i, j)) {
            return 1;
        }
        if (isLeft(j, i)) {
            return 2;
        }
        return isBelow(j, i) ? 3 : ChipFloor.NONE;
    }

    int x(int block, int[] wide) {
        int x = 0;
        for (int i = 0; i < wide.length; i++) {
            if (isLeft(i, block)) {
                x = Math.max(x, x(i, wide) + wide[i]);
            }
        }
        return x;
    }

    int y(int block, int[] high) {
        int y = 0;
        for (int i = 0; i < high.length; i++) {
            if (isBelow(i, block)) {
                y = Math.max(y, y(i, high) + high[i]);
            }
        }
        return y;
    }

    int wideAll(int[] wide) {
        int most = 0;
        for (int i = 0; i < wide.length; i++) {
            most = Math.max(most, x(i, wide) + wide[i]);
        }
        return most;
    }

    /** Tries one more and one more, until THE WIDTH does not stay. */
    int grows(int block, int[] wide) {
        int[] grown = wide.clone();
        while (wideAll(grown) == wideAll(wide)) {
            grown[block]++;
        }
        return grown[block] - wide[block] - 1;
    }
}
