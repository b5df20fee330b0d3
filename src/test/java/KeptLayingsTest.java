/** Promises 25 to 27: stow, stowed, front. */
public final class KeptLayingsTest {
    private static final int BAD = ChipFloor.BAD, FULL = ChipFloor.FULL;
    private static final Due due = new Due();

    public static void main(String[] args) {
        stow();
        stowed();
        fullAfterEight();
        beatenAndFront();
        alikeOnesDoNotBeat();
        due.end();
    }

    private static void stow() {
        ChipFloor x = new ChipFloor();
        due.is("25: without blocks", x.stow(), 0);
        for (int what = 0; what < 4; what++) {
            due.is("26: without blocks", x.stowed(0, what), 0);
        }
        due.is("27: it alone", x.front(), 1);
    }

    private static void stowed() {
        ChipFloor x = new ChipFloor();
        x.block(0, 4, 3);
        x.block(0, 2, 5);
        x.net(3, 4);
        x.power(0, 3);
        x.power(1, 5);
        due.is("25: number", x.stow(), 0);
        x.power(0, 50);
        x.move(0, 0, 1);
        due.is("26: area as it was", x.stowed(0, 0), 30);
        due.is("26: WIRES as they were", x.stowed(0, 1), 32);
        due.is("26: HEAT as it was", x.stowed(0, 2), 23);
        due.is("25: the next", x.stow(), 1);
        due.is("26: area", x.stowed(1, 0), 32);
        due.is("26: WIRES", x.stowed(1, 1), 4 * (2 + 8));
        due.is("26: HEAT", x.stowed(1, 2), 205);
        due.is("40: kept", x.count(4), 2);
        due.is("26: laying -1", x.stowed(-1, 0), BAD);
        due.is("26: laying 2", x.stowed(2, 0), BAD);
        due.is("26: what -1", x.stowed(0, -1), BAD);
        due.is("26: what 4", x.stowed(0, 4), BAD);
    }

    private static void fullAfterEight() {
        ChipFloor x = new ChipFloor();
        for (int i = 0; i < 8; i++) {
            due.is("25: number", x.stow(), i);
        }
        due.is("25: the ninth", x.stow(), FULL);
        due.is("40: eight", x.count(4), 8);
        due.is("27: none is beaten", x.front(), 255);
    }

    /** The areas and heats of one block are told by its shape and power. */
    private static void beatenAndFront() {
        ChipFloor x = new ChipFloor();
        x.block(5, 5, 4);
        due.is("27: none", x.front(), 0);
        // areas 20, 20, 18
        x.power(0, 10);
        x.stow();
        x.power(0, 5);
        x.stow();
        due.is("26: less in one", x.stowed(0, 3), 1);
        due.is("26: beats", x.stowed(1, 3), 0);
        due.is("27: the second", x.front(), 2);
        x.move(3, 0, 0);
        x.move(3, 0, 0);
        x.power(0, 6);
        x.stow();
        due.is("26: more in one, less in another", x.stowed(2, 3), 0);
        due.is("26: not beaten by it", x.stowed(1, 3), 0);
        due.is("27: both", x.front(), 6);
        x.power(0, 5);
        x.stow();
        due.is("27: the last alone", x.front(), 8);
        due.is("26: beaten in area", x.stowed(1, 3), 1);
        due.is("26: beaten in heat", x.stowed(2, 3), 1);
    }

    private static void alikeOnesDoNotBeat() {
        ChipFloor y = new ChipFloor();
        y.block(0, 2, 2);
        y.stow();
        y.power(0, 1);
        y.stow();
        due.is("26: beaten by the first", y.stowed(1, 3), 1);
        due.is("27: the first", y.front(), 1);
        ChipFloor x = new ChipFloor();
        x.block(0, 2, 2);
        x.block(0, 2, 2);
        x.stow();
        x.stow();
        due.is("27: alike", x.front(), 3);
        x.net(3, 1);
        x.stow();
        due.is("26: more wires", x.stowed(2, 3), 1);
        due.is("27: alike still", x.front(), 3);
    }
}
