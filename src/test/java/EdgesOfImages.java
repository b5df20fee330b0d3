import java.util.List;
import java.util.function.Supplier;

/** Promises 36 to 40: tell, check, keep, back, count. */
final class EdgesOfImages {
    private static final int BAD = ChipFloor.BAD, NO = ChipFloor.NO, FULL = ChipFloor.FULL, INDEX = ChipFloor.INDEX;
    private static final int LEAST = Edges.LEAST, MOST = Edges.MOST;
    private final Edges e;

    EdgesOfImages(Edges e) {
        this.e = e;
    }

    void all() {
        tell();
        checkRefused();
        checkOfAll();
        checkOfWrongOnes();
        checkFromTheImage();
        keep();
        backRefused();
        backBrings();
        backLeaves();
        backOfFewer();
        backAgain();
        countRefused();
        counts();
    }

    private void tell() {
        e.says(36, "One more number waits: how many. FULL: 60 wait.");
        ChipFloor x = new ChipFloor();
        int[] any = {LEAST, MOST, 0, -1, ChipFloor.BAD};
        for (int i = 1; i <= 60; i++) {
            e.due(i, x, "tell", any[i % 5]);
        }
        for (int v : any) {
            e.due(FULL, x, "tell", v);
            e.due(60, x, "count", 7);
            e.refused(FULL, States::full, "tell", v);
        }
        x.check(1);
        e.due(1, x, "tell", 5);
    }

    private void checkRefused() {
        e.says(37, "BAD; NO: there is no IMAGE, or it has no BLOCKS.");
        for (int n : new int[] {0, 61, -1, LEAST, MOST}) {
            e.refusedInAllStates(BAD, "check", n);
            e.refused(BAD, () -> waiting(new ChipFloor(), 3), "check", n);
        }
        Supplier<ChipFloor> none = () -> waiting(Edges.with(0, 1, 1), 60);
        Supplier<ChipFloor> empty = () -> {
            ChipFloor x = new ChipFloor();
            x.keep();
            x.block(0, 1, 1);
            return waiting(x, 60);
        };
        for (int n : new int[] {1, 60}) {
            e.refused(NO, States::fresh, "check", n);
            e.refused(NO, none, "check", n);
            e.refused(NO, empty, "check", n);
        }
        e.says(37, "The numbers that wait (none do then, whatever is answered)");
        int[] ns = {0, 1, 60, 61};
        for (int n : ns) {
            for (ChipFloor x : new ChipFloor[] {none.get(), empty.get(), States.some(), States.full()}) {
                x.check(n);
                e.due(0, x, "count", 7);
                e.due(1, x, "tell", 5);
            }
        }
    }

    private static ChipFloor waiting(ChipFloor x, int many) {
        for (int i = 0; i < many; i++) {
            x.tell(i);
        }
        return x;
    }

    /** Blocks, nets and a seed, from which a walk at heat 0 goes down for some steps. */
    private static ChipFloor four(int seed) {
        ChipFloor x = Edges.with(2, 3, 7, 1, 5, 2, 5, 4, 4, 4, 2, 6);
        x.net(15, 2);
        x.net(9, 7);
        x.seed(seed);
        return x;
    }

    private static int[] steps(int seed, int n) {
        ChipFloor x = four(seed);
        int[] prices = new int[n];
        for (int i = 0; i < n; i++) {
            prices[i] = x.walk(1, 0);
        }
        return prices;
    }

    private static void tellAll(ChipFloor x, int[] prices, int n) {
        for (int i = 0; i < n; i++) {
            x.tell(prices[i]);
        }
    }

    private void checkOfAll() {
        e.says(37, "are THE STEPS TOLD of n (1 .. 60): 0");
        for (int seed : new int[] {1, -1, LEAST, MOST, 99}) {
            int[] prices = steps(seed, 60);
            for (int n : new int[] {1, 2, 30, 59, 60}) {
                ChipFloor x = four(seed);
                x.keep();
                tellAll(x, prices, n);
                e.due(0, x, "check", n);
                e.due(0, x, "count", 7);
            }
        }
        // one block that has one shape: PRICE is the same behind each step
        ChipFloor one = Edges.with(4, 3, 3);
        one.keep();
        for (int n : new int[] {1, 60}) {
            for (int i = 0; i < n; i++) {
                one.tell(9);
            }
            e.due(0, one, "check", n);
        }
    }

    private void checkOfWrongOnes() {
        e.says(37, "else 1 and how many stand right ahead of the first that is not (or is missing, or one too many)");
        int[] prices = steps(5, 60);
        ChipFloor x = four(5);
        x.keep();
        for (int n : new int[] {1, 2, 7}) {
            // none at all, then one too few, then one and more too many
            e.due(1, x, "check", n);
            for (int told = 1; told <= n + 2; told++) {
                tellAll(x, prices, told);
                e.due(told < n ? told + 1 : told == n ? 0 : n + 1, x, "check", n);
            }
            for (int wrong = 0; wrong < n; wrong++) {
                for (int by = -1; by <= 1; by += 2) {
                    tellAll(x, prices, wrong);
                    x.tell(prices[wrong] + by);
                    for (int i = wrong + 1; i < n; i++) {
                        x.tell(prices[i]);
                    }
                    e.due(wrong + 1, x, "check", n);
                }
            }
        }
        ChipFloor full = four(5);
        full.keep();
        tellAll(full, prices, 60);
        e.due(60, full, "check", 59);
        tellAll(full, prices, 59);
        e.due(60, full, "check", 60);
        tellAll(full, prices, 60);
        e.due(2, full, "check", 1);
        e.due(1, full, "check", 60);
        ChipFloor last = four(5);
        last.keep();
        tellAll(last, prices, 59);
        last.tell(prices[59] + 1);
        e.due(60, last, "check", 60);
        // a wrong one stands ahead of one too many
        tellAll(last, prices, 3);
        last.tell(-1);
        last.tell(prices[4]);
        last.tell(prices[5]);
        e.due(4, last, "check", 5);
    }

    private void checkFromTheImage() {
        e.says(37, "THE STEPS TOLD: PRICE behind each of n STEPS of a WALK at heat 0 from THE IMAGE on.");
        int[] prices = steps(9, 60);
        Supplier<ChipFloor> made = () -> {
            ChipFloor x = four(9);
            x.keep();
            x.move(3, 0, 0);
            x.move(4, 1, 0);
            x.seed(77);
            x.rule(1, 5);
            x.rule(4, 2);
            x.net(255, 9);
            return x;
        };
        for (View view : View.values()) {
            ChipFloor x = made.get();
            tellAll(x, prices, 60);
            e.due(0, x, "check", 60);
            List<Integer> left = view.of(x);
            e.is("whether " + view + " stays", left.equals(view.of(made.get())) ? 1 : 0, 1);
        }
        // again and again, and behind a newer image from that one on
        ChipFloor x = made.get();
        for (int again = 0; again < 3; again++) {
            tellAll(x, prices, 20);
            e.due(0, x, "check", 20);
        }
        x.back();
        x.walk(20, 0);
        x.keep();
        for (int i = 20; i < 50; i++) {
            x.tell(prices[i]);
        }
        e.due(0, x, "check", 30);
        // the image may have more blocks than there are, or fewer
        ChipFloor y = Edges.with(4, 3, 3);
        y.keep();
        y.block(0, 9, 9);
        y.tell(9);
        e.due(0, y, "check", 1);
    }

    private void keep() {
        e.says(38, "AN IMAGE is kept: the number of BLOCKS.");
        ChipFloor x = new ChipFloor();
        for (int many = 0; many <= 8; many++) {
            e.due(many, x, "keep");
            e.due(many, x, "keep");
            x.block(0, 1, 1);
        }
        for (View view : View.values()) {
            if (view != View.IMAGE && view != View.TAPE && view != View.WAITING) {
                ChipFloor y = States.full();
                e.due(8, y, "keep");
                e.is("whether " + view + " stays", view.of(y).equals(view.of(States.full())) ? 1 : 0, 1);
            }
        }
        ChipFloor y = States.full();
        y.keep();
        e.due(96, y, "count", 8);
        e.due(60, y, "count", 7);
        e.due(20, y, "count", 5);
        // the newest image is the one
        ChipFloor z = Edges.with(0, 1, 1);
        z.keep();
        z.block(0, 2, 2);
        z.keep();
        z.block(0, 3, 3);
        e.due(2, z, "back");
        e.due(3, z, "whole", 0);
    }

    private void backRefused() {
        e.says(39, "All is as THE IMAGE: the number of BLOCKS. NO: there is none.");
        e.refused(NO, States::fresh, "back");
        e.refused(NO, () -> Edges.with(0, 1, 1, 2, 3, 3), "back");
        ChipFloor x = new ChipFloor();
        x.keep();
        e.due(0, x, "back");
        e.due(3, States.some(), "back");
        e.due(8, States.full(), "back");
    }

    private void backBrings() {
        e.says(39, "AN IMAGE keeps all but SHEETS, SLOTS, numbers that wait, THE TAPE, what can be undone");
        for (View view : new View[] {View.LAYING, View.WISHES}) {
            ChipFloor x = States.full();
            x.keep();
            List<Integer> kept = view.of(States.full());
            x.walk(50, 9999);
            x.power(0, 77);
            x.power(7, 77);
            for (int what = 0; what < 5; what++) {
                x.rule(what, 9);
            }
            x.seed(5);
            x.move(3, 1, 0);
            e.due(8, x, "back");
            e.is("whether " + view + " is as in the image", view.of(x).equals(kept) ? 1 : 0, 1);
        }
        // each thing by itself that there is more of
        ChipFloor y = States.some();
        y.keep();
        y.block(0, 9, 9);
        y.net(3, 9);
        Edges.taped(y, "all 0").wish();
        y.stow();
        int[] more = {4, 3, 3, 0, 3};
        int[] kept = {3, 2, 2, 0, 2};
        for (int what : new int[] {0, 1, 2, 4}) {
            e.due(more[what], y, "count", what);
        }
        y.back();
        for (int what : new int[] {0, 1, 2, 4}) {
            e.due(kept[what], y, "count", what);
        }
        e.due(3, y, "block", 0, 1, 1);
        e.due(2, y, "net", 3, 1);
        e.due(2, Edges.taped(y, "all 5"), "wish");
        e.due(5, y, "of", 2, 3);
        e.due(2, y, "stow");
    }

    private void backLeaves() {
        e.says(39, "AN IMAGE keeps all but SHEETS, SLOTS, numbers that wait, THE TAPE, what can be undone");
        for (View view : new View[] {View.SHEETS, View.SLOTS}) {
            ChipFloor x = States.full();
            x.back();
            e.is("whether " + view + " stays", view.of(x).equals(view.of(States.full())) ? 1 : 0, 1);
        }
        ChipFloor x = States.full();
        x.back();
        e.due(60, x, "count", 7);
        e.due(96, x, "count", 8);
        e.due(0, x, "check", 60);
        e.due(0, x, "wish");
        e.due(7 * 46, x, "of", 0, 3);
        ChipFloor y = new ChipFloor();
        y.keep();
        y.sheet(0, 1, 2);
        y.lay(0, 3, 5);
        y.back();
        e.due(INDEX, y, "mark", 0, 2, 0);
        e.due(5, y, "rest", 0, 10);
        e.says(39, "all can become as it is (again and again; nothing can be undone then)");
        ChipFloor z = Edges.with(2, 3, 3);
        z.keep();
        z.move(3, 0, 0);
        e.due(1, z, "back");
        e.due(0, z, "count", 5);
        e.due(NO, z, "undo");
        ChipFloor w = Edges.with(2, 3, 3);
        w.move(3, 0, 0);
        w.keep();
        e.due(1, w, "count", 5);
        w.back();
        e.due(NO, w, "undo");
        e.due(1, w, "told", 0, 5);
    }

    private void backOfFewer() {
        e.says(39, "All is as THE IMAGE: the number of BLOCKS.");
        ChipFloor x = new ChipFloor();
        x.keep();
        for (int i = 0; i < 8; i++) {
            x.block(i % 6, 9, 9);
            x.power(i, 99);
            x.net(255, 9);
        }
        x.move(4, 0, 0);
        Due.wish(x, "all 5");
        x.stow();
        x.rule(4, 1);
        x.seed(9);
        e.due(0, x, "back");
        List<Integer> fresh = View.LAYING.of(new ChipFloor());
        e.is("whether the laying is as of a new object", View.LAYING.of(x).equals(fresh) ? 1 : 0, 1);
        e.is("whether the wishes are as of a new object", View.WISHES.of(x).equals(View.WISHES.of(new ChipFloor())) ? 1 : 0, 1);
        // rows come back in their order, then a new block comes behind all
        ChipFloor y = Edges.with(0, 1, 1, 0, 1, 1, 0, 1, 1);
        y.move(0, 0, 2);
        y.move(1, 0, 1);
        y.keep();
        y.move(2, 0, 1);
        y.block(0, 1, 1);
        y.move(0, 0, 3);
        y.move(1, 1, 3);
        y.back();
        y.block(0, 1, 1);
        int[] rows = {2, 1, 0, 3, 1, 0, 2, 3};
        for (int i = 0; i < 8; i++) {
            e.due(rows[i], y, "at", i / 4, i % 4);
        }
    }

    private void backAgain() {
        e.says(39, "(again and again; nothing can be undone then)");
        ChipFloor x = four(3);
        Due.wish(x, "all w");
        x.stow();
        x.keep();
        int[] prices = steps(3, 20);
        for (int again = 0; again < 3; again++) {
            e.due(prices[19], x, "walk", 20, 0);
            x.block(0, 5, 5);
            x.net(3, 3);
            Due.wish(x, "all 5");
            x.stow();
            x.power(0, 9);
            e.due(4, x, "back");
            int[] counts = {4, 2, 1, 1, 1, 0, 0, 0, 0, 3};
            for (int what = 0; what < 10; what++) {
                e.due(counts[what], x, "count", what);
            }
            e.due(0, x, "told", 0, 3);
        }
        e.due(4, x, "back");
        e.due(4, x, "back");
    }

    private void countRefused() {
        e.says(40, "7 numbers that wait, 8 bytes of THE TAPE, 9 z. BAD.");
        for (int what : new int[] {-1, 10, LEAST, MOST}) {
            e.refusedInAllStates(BAD, "count", what);
        }
    }

    private void counts() {
        e.says(40, "How many: 0 BLOCKS, 1 NETS, 2 WISHES, 3 that are MET, 4 KEPT LAYINGS, 5 MOVES that can be undone, 6 BLOCKS on LAYER 1");
        int[] fresh = {0, 0, 0, 0, 0, 0, 0, 0, 0, 1};
        int[] some = {3, 2, 2, 1, 2, 3, 1, 5, 5, -5};
        int[] full = {8, 10, 10, 5, 8, 20, 4, 60, 96, 77};
        ChipFloor x = States.some(), y = States.full();
        // "all .." five times is met, "block .. x>3" by where it stands
        for (int block : new int[] {1, 3, 5, 7, 1}) {
            full[3] += y.told(block, 10) > 3 ? 1 : 0;
        }
        for (int what = 0; what < 10; what++) {
            e.due(fresh[what], new ChipFloor(), "count", what);
            e.due(some[what], x, "count", what);
            e.due(full[what], y, "count", what);
        }
        ChipFloor met = new ChipFloor();
        for (int i = 0; i <= 10; i++) {
            e.due(i, met, "count", 3);
            Due.wish(met, "all 1");
        }
        ChipFloor above = new ChipFloor();
        for (int i = 0; i < 8; i++) {
            above.block(0, 1, 1);
            e.due(i, above, "count", 6);
            above.move(4, i, 0);
            e.due(i + 1, above, "count", 6);
        }
        for (int i = 7; i >= 0; i--) {
            above.move(4, i, 0);
            e.due(i, above, "count", 6);
        }
        e.due(8, above, "undo");
        e.due(1, above, "count", 6);
    }
}
