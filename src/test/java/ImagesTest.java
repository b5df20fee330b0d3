/** Promises 36 to 40: tell, check, keep, back, count. */
public final class ImagesTest {
    private static final int BAD = ChipFloor.BAD, NO = ChipFloor.NO, FULL = ChipFloor.FULL;
    private static final Due due = new Due();

    public static void main(String[] args) {
        tell();
        checkRefused();
        check();
        checkLeavesAll();
        keep();
        backBringsAll();
        backLeavesTheRest();
        backAgainAndAgain();
        counts();
        due.end();
    }

    private static void tell() {
        ChipFloor x = new ChipFloor();
        for (int i = 1; i <= 60; i++) {
            due.is("36: how many", x.tell(-i), i);
        }
        due.is("36: the 61st", x.tell(0), FULL);
        due.is("36: 60 wait", x.count(7), 60);
    }

    private static void checkRefused() {
        ChipFloor x = new ChipFloor();
        x.tell(1);
        due.is("37: BAD ahead of NO", x.check(0), BAD);
        due.is("37: none wait then", x.count(7), 0);
        x.tell(1);
        due.is("37: no image", x.check(60), NO);
        due.is("37: none wait then", x.count(7), 0);
        x.keep();
        x.block(0, 1, 1);
        x.tell(1);
        due.is("37: its image has no blocks", x.check(1), NO);
        due.is("37: none wait then", x.count(7), 0);
        x.keep();
        due.is("37: 61", x.check(61), BAD);
        due.is("37: -1", x.check(-1), BAD);
    }

    private static ChipFloor four(int seed) {
        ChipFloor x = new ChipFloor();
        x.block(2, 3, 7);
        x.block(1, 5, 2);
        x.block(5, 4, 4);
        x.block(4, 2, 6);
        x.net(15, 2);
        x.net(9, 7);
        x.seed(seed);
        return x;
    }

    /** The prices behind n steps, found on an object of their own by walks of one step. */
    private static int[] steps(int seed, int n) {
        ChipFloor x = four(seed);
        int[] prices = new int[n];
        for (int i = 0; i < n; i++) {
            prices[i] = x.walk(1, 0);
        }
        return prices;
    }

    private static void tellAll(ChipFloor x, int[] prices, int n) {
        for (int i = 0; i < n; i++) {
            x.tell(prices[i]);
        }
    }

    private static void check() {
        for (int seed = 1; seed <= 5; seed++) {
            ChipFloor x = four(seed);
            int[] prices = steps(seed, 60);
            x.keep();
            tellAll(x, prices, 60);
            due.is("37: all sixty", x.check(60), 0);
            due.is("37: none wait then", x.count(7), 0);
            tellAll(x, prices, 20);
            due.is("37: all twenty", x.check(20), 0);
            tellAll(x, prices, 20);
            due.is("37: one is missing", x.check(21), 21);
            tellAll(x, prices, 20);
            due.is("37: one too many", x.check(19), 20);
            due.is("37: none at all", x.check(3), 1);
            for (int wrong = 0; wrong < 5; wrong++) {
                tellAll(x, prices, wrong);
                x.tell(prices[wrong] + 1);
                x.tell(prices[wrong + 1]);
                due.is("37: the first that is not", x.check(wrong + 2), 1 + wrong);
            }
        }
    }

    private static void checkLeavesAll() {
        ChipFloor x = four(9);
        x.keep();
        x.move(3, 0, 0);
        x.seed(77);
        int price = x.whole(4);
        int[] prices = steps(9, 30);
        for (int again = 0; again < 3; again++) {
            tellAll(x, prices, 30);
            due.is("37: from the image on, again", x.check(30), 0);
        }
        due.is("37: z stays", x.count(9), 77);
        due.is("37: PRICE stays", x.whole(4), price);
        due.is("37: what can be undone stays", x.undo(), 0);
        x.back();
        due.is("37: the image stays", x.count(9), 9);
        due.is("37: the image's walk", x.walk(30, 0), prices[29]);
    }

    private static void keep() {
        ChipFloor x = new ChipFloor();
        due.is("38: no blocks", x.keep(), 0);
        x.block(0, 3, 3);
        due.is("39: no blocks", x.back(), 0);
        for (int what = 0; what <= 4; what++) {
            due.is("39: whole(" + what + ") without blocks", x.whole(what), 0);
        }
        x.block(0, 1, 1);
        x.block(0, 1, 1);
        x.move(0, 0, 1);
        due.is("38: two blocks", x.keep(), 2);
        due.is("38: what can be undone stays", x.undo(), 0);
        x.block(0, 1, 1);
        due.is("39: two again", x.back(), 2);
        due.is("39: THE ONE", x.at(0, 0), 1);
    }

    private static void backBringsAll() {
        ChipFloor x = four(5);
        x.power(1, 8);
        x.rule(0, 4);
        x.rule(3, 44);
        Due.wish(x, "block 1 p = 8");
        x.stow();
        x.move(4, 0, 0);
        x.move(3, 2, 0);
        x.move(1, 0, 3);
        int price = x.whole(4);
        int wires = x.whole(3);
        due.is("38: four", x.keep(), 4);
        x.block(0, 9, 9);
        x.power(1, 9);
        x.rule(0, 9);
        x.rule(3, 0);
        x.net(6, 1);
        x.net(3, 9);
        Due.wish(x, "all 0");
        x.stow();
        x.stow();
        x.walk(100, 500);
        x.move(3, 0, 0);
        due.is("39: four", x.back(), 4);
        due.is("39: PRICE", x.whole(4), price);
        due.is("39: WIRES", x.whole(3), wires);
        int[] counts = {4, 2, 1, 1, 1, 0, 1, 0, 0, 5};
        for (int what = 0; what < 10; what++) {
            due.is("39: count(" + what + ")", x.count(what), counts[what]);
        }
        due.is("39: POWER", x.told(1, 3), 8);
        due.is("39: LAYER", x.told(0, 4), 1);
        due.is("39: SHAPE", x.told(2, 5), 1);
        due.is("39: THE OTHER", x.at(1, 0), 3);
        due.is("39: POSTS", x.rule(0, 1), 4);
        due.is("39: OUT", x.rule(3, 1), 44);
        due.is("39: nothing to undo", x.undo(), NO);
        due.is("39: the wish", x.of(0, 2), 1);
        due.is("39: no other", x.of(1, 2), BAD);
    }

    private static void backLeavesTheRest() {
        ChipFloor x = four(5);
        x.keep();
        x.sheet(0, 1, 3);
        x.mark(0, 1, 6);
        x.lay(0, 3, 17);
        x.tell(5);
        x.feed(1, 2, 3);
        x.back();
        due.is("39: sheets", x.mark(0, 1, 0), 6);
        due.is("39: slots", x.rest(0, 10), 7);
        due.is("39: numbers that wait", x.count(7), 1);
        due.is("39: THE TAPE", x.count(8), 12);
    }

    private static void backAgainAndAgain() {
        ChipFloor x = new ChipFloor();
        due.is("39: no image", x.back(), NO);
        x.block(1, 3, 2);
        Due.wish(x, "all w");
        x.keep();
        for (int again = 0; again < 3; again++) {
            x.move(3, 0, 0);
            x.block(0, 5, 5);
            Due.wish(x, "all 5");
            x.stow();
            due.is("39: one block", x.back(), 1);
            due.is("39: SHAPE", x.told(0, 5), 0);
            due.is("39: WIDTH", x.whole(0), 3);
            due.is("39: wishes", x.count(2), 1);
            due.is("39: kept", x.count(4), 0);
        }
    }

    private static void counts() {
        ChipFloor x = four(3);
        Due.wish(x, "all 1");
        Due.wish(x, "all 0");
        Due.wish(x, "all w");
        x.stow();
        x.move(4, 0, 0);
        x.move(4, 1, 0);
        x.move(4, 1, 0);
        x.tell(4);
        x.tell(4);
        x.feed(1, 1, 1);
        int[] counts = {4, 2, 3, 2, 1, 3, 1, 2, 12, 3};
        for (int what = 0; what < 10; what++) {
            due.is("40: count(" + what + ")", x.count(what), counts[what]);
        }
        due.is("40: what -1", x.count(-1), BAD);
        due.is("40: what 10", x.count(10), BAD);
    }
}
