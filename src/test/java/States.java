/** Objects from which calls are tried: new, with some of all, and as full as it gets. None takes more than 200 calls to make. */
final class States {
    private States() {
    }

    static ChipFloor fresh() {
        return new ChipFloor();
    }

    /** Three blocks (HARD, SOFT, FIXED), sheets 0 and 1 alone, slots 0 to 2 alone. */
    static ChipFloor some() {
        ChipFloor x = someImage();
        Due.wish(x, "all w > 3");
        Due.wish(x, "block 1 x");
        x.stow();
        x.power(0, 9);
        x.stow();
        x.sheet(0, 0, 3);
        x.sheet(1, 1, 4);
        for (int place = 0; place < 3; place++) {
            x.mark(0, place, 7 + place);
            x.mark(1, place, 100 + place);
        }
        x.lay(0, 1, 0);
        x.lay(1, 2, 1);
        x.lay(2, 3, -17);
        x.move(4, 1, 0);
        x.move(3, 0, 0);
        x.move(1, 0, 2);
        tellSteps(x, someImage(), 5);
        Due.tape(x, "all 7");
        return x;
    }

    private static ChipFloor someImage() {
        ChipFloor x = Edges.with(1, 3, 5, 2, 4, 5, 4, 6, 2);
        x.power(0, 1);
        x.power(1, 3);
        x.power(2, 5);
        x.net(3, 2);
        x.net(7, 1);
        x.rule(0, 2);
        x.seed(-5);
        x.keep();
        return x;
    }

    /** Eight blocks, ten nets and wishes, eight kept layings, 24 places in each sheet, twenty moves, 60 numbers, 96 bytes. */
    static ChipFloor full() {
        ChipFloor x = fullImage();
        for (int i = 0; i < 10; i++) {
            Due.wish(x, i % 2 == 0 ? "all w+" + i : "block " + i % 8 + " x>3");
        }
        for (int i = 0; i < 8; i++) {
            x.power(0, 3 * i);
            x.stow();
        }
        for (int sheet = 0; sheet < 4; sheet++) {
            x.sheet(sheet, sheet % 3, 24);
            x.mark(sheet, 0, 33 * sheet);
            x.mark(sheet, 23, -70000);
        }
        x.lay(0, 1, 1);
        x.lay(1, 2, 1);
        x.lay(2, 3, -17);
        x.lay(3, 2, 0);
        x.lay(4, 1, 4);
        for (int i = 0; i < 21; i++) {
            x.move(i % 5, i % 4, 5 + i % 3);
        }
        tellSteps(x, fullImage(), 60);
        Due.tape(x, "all 7 " + "+7".repeat(45));
        return x;
    }

    private static ChipFloor fullImage() {
        ChipFloor x = new ChipFloor();
        for (int i = 0; i < 8; i++) {
            x.block(i % 6, 3 + i, 5);
            x.power(i, 2 * i + 1);
        }
        for (int i = 0; i < 10; i++) {
            x.net(3 << i % 7, 1 + i % 9);
        }
        x.rule(0, 2);
        x.rule(3, 7);
        x.rule(4, 20);
        x.seed(77);
        x.keep();
        return x;
    }

    /** The steps from the image on, found on an object that is as the image. */
    private static void tellSteps(ChipFloor x, ChipFloor image, int n) {
        for (int i = 0; i < n; i++) {
            x.tell(image.walk(1, 0));
        }
    }
}
