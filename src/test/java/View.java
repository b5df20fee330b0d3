import java.util.ArrayList;
import java.util.List;

/** One side of an object, as answers. To look may change the object, so each look needs one of its own; none takes more than 300 calls. */
enum View {
    LAYING, WISHES, SHEETS, SLOTS, TRAIL, IMAGE, TAPE, WAITING;

    List<Integer> of(ChipFloor x) {
        List<Integer> all = new ArrayList<>();
        switch (this) {
            case LAYING -> laying(x, all);
            case WISHES -> wishes(x, all);
            case SHEETS -> sheets(x, all);
            case SLOTS -> slots(x, all);
            case TRAIL -> trail(x, all);
            case IMAGE -> image(x, all);
            case TAPE -> tape(x, all);
            default -> waiting(x, all);
        }
        return all;
    }

    boolean isUsedUpBy(String name) {
        return this == TAPE && name.equals("wish") || this == WAITING && name.equals("check");
    }

    /** How much is left of the tape, or of the numbers that wait. */
    int left(ChipFloor x) {
        return x.count(this == TAPE ? 8 : 7);
    }

    private static void laying(ChipFloor x, List<Integer> all) {
        int blocks = x.count(0);
        all.add(blocks);
        for (int block = 0; block < blocks; block++) {
            all.add(x.at(0, block));
            all.add(x.at(1, block));
            for (int what = 0; what < 15; what++) {
                all.add(x.told(block, what));
            }
        }
        int nets = x.count(1);
        all.add(nets);
        for (int net = 0; net < nets; net++) {
            all.add(x.wire(net, 0));
            all.add(x.wire(net, 1));
        }
        for (int what = 0; what < 5; what++) {
            all.add(x.whole(what));
        }
        for (int what = 0; what < 5; what++) {
            all.add(x.rule(what, 1));
        }
        all.add(x.hottest());
        all.add(x.count(6));
        all.add(x.count(9));
    }

    private static void wishes(ChipFloor x, List<Integer> all) {
        int wishes = x.count(2);
        all.add(wishes);
        for (int wish = 0; wish < wishes; wish++) {
            for (int what = 0; what < 4; what++) {
                all.add(x.of(wish, what));
            }
        }
        int kept = x.count(4);
        all.add(kept);
        for (int laying = 0; laying < kept; laying++) {
            for (int what = 0; what < 4; what++) {
                all.add(x.stowed(laying, what));
            }
        }
        all.add(x.missed());
        all.add(x.front());
        all.add(x.count(3));
    }

    private static void sheets(ChipFloor x, List<Integer> all) {
        for (int sheet = 0; sheet < 4; sheet++) {
            for (int place = 0; place <= 24; place++) {
                all.add(x.mark(sheet, place, 0));
            }
            // a row of ints takes nothing from one of another sort
            x.sheet((sheet + 1) % 4, 1, 24);
            all.add(x.copy(sheet, 0, (sheet + 1) % 4, 0, 0));
        }
    }

    private static void slots(ChipFloor x, List<Integer> all) {
        for (int slot = 0; slot < 5; slot++) {
            for (int kind = 0; kind < 6; kind++) {
                all.add(x.ask(slot, kind));
            }
            for (int place = 0; place <= 24; place++) {
                all.add(x.item(slot, place));
            }
            all.add(x.rest(slot, Integer.MIN_VALUE));
            all.add(x.lay(slot, 0, 0));
        }
    }

    private static void trail(ChipFloor x, List<Integer> all) {
        all.add(x.count(5));
        for (int i = 0; i <= 20; i++) {
            all.add(x.undo());
            all.add(x.whole(4));
            all.add(x.whole(2));
        }
        laying(x, all);
    }

    private static void image(ChipFloor x, List<Integer> all) {
        all.add(x.back());
        laying(x, all);
        wishes(x, all);
    }

    /** The image has room for one more wish, if there is one. */
    private static void tape(ChipFloor x, List<Integer> all) {
        all.add(x.count(8));
        x.back();
        int wish = x.wish();
        all.add(wish);
        for (int what = 0; what < 4; what++) {
            all.add(x.of(wish, what));
        }
    }

    private static void waiting(ChipFloor x, List<Integer> all) {
        int waits = x.count(7);
        all.add(waits);
        all.add(x.check(Math.max(1, waits)));
    }
}
