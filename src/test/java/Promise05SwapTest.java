/** Promise 5: swap. */
public final class Promise05SwapTest {
    public static void main(String[] args) {
        Due.sentence("Files a and b of the live tree change their contents.");
        everyPair();
        sameBlocks();
        noRoomNeeded();
        Due.sentence("Answers 1, or 0 if a is b.");
        sameContents();
        Due.sentence(Due.EVERY_CALL);
        wrongInputs();
        Due.end();
    }

    private static void everyPair() {
        for (int a = 0; a < 4; a++) {
            for (int b = 0; b < 4; b++) {
                CowContainer x = new CowContainer(24);
                for (int i = 0; i < 16; i += 3) {
                    x.write(0, i / 4, i % 4, i);
                    x.write(1, i / 4, i % 4, -i);
                }
                Due.same("swap(0, " + a + ", " + b + ")", x.swap(0, a, b), a == b ? 0 : 1);
                for (int i = 0; i < 16; i++) {
                    int file = i / 4 == a ? b : i / 4 == b ? a : i / 4;
                    int old = file * 4 + i % 4;
                    Due.same("read after it", x.read(0, 0, i / 4, i % 4),
                        old % 3 == 0 ? old : CowContainer.HOLE);
                    Due.same("read of the other volume after it", x.read(1, 0, i / 4, i % 4),
                        i % 3 == 0 ? -i : CowContainer.HOLE);
                }
                Due.same("used after it", x.used(), 12);
            }
        }
    }

    private static void sameBlocks() {
        CowContainer x = Due.filled(24);
        int before = x.shared(0, 0, 1);
        Due.same("swap(0, 2, 3)", x.swap(0, 2, 3), 1);
        Due.same("the blocks are still those of the snapshot", x.shared(0, 0, 1), before);
        Due.same("the snapshot's files aren't swapped", x.read(0, 1, 2, 1), 21);
        Due.same("two empty files", new CowContainer(4).swap(1, 0, 3), 1);
    }

    private static void wrongInputs() {
        for (int volume : Due.NO_VOLUME) {
            Due.refused("swap(" + volume + ", 0, 1)", c -> c.swap(volume, 0, 1));
        }
        for (int file : Due.NO_FILE) {
            Due.refused("swap(0, " + file + ", 0)", c -> c.swap(0, file, 0));
            Due.refused("swap(0, 0, " + file + ")", c -> c.swap(0, 0, file));
            Due.refused("swap(0, " + file + ", " + file + ")", c -> c.swap(0, file, file));
        }
        Due.unchanged("swap(0, 0, 0)", Due.filled(24), c -> c.swap(0, 0, 0), 0);
        Due.refusedWhenDown("swap(0, 0, 1)", c -> c.swap(0, 0, 1));
        Due.refusedWhenDown("swap(0, 1, 1)", c -> c.swap(0, 1, 1));
    }

    private static void noRoomNeeded() {
        CowContainer x = Twins.full(2);
        Due.same("swap when full", x.swap(0, 0, 3), 1);
        Due.same("it went there", x.read(0, 0, 3, 0), 3);
        Due.same("and left a hole", x.read(0, 0, 0, 0), CowContainer.HOLE);
        Due.same("swap back", x.swap(0, 3, 0), 1);
        Due.same("it is back", x.read(0, 0, 0, 0), 3);
        Due.same("used after it", x.used(), 4);
    }

    /** It is the files that are the same or not, whatever they hold. */
    private static void sameContents() {
        for (int i = 0; i < 16; i++) {
            CowContainer x = new CowContainer(4);
            int want = i / 4 == i % 4 ? 0 : 1;
            Due.same("two empty files", x.swap(0, i / 4, i % 4), want);
            x.write(1, i / 4, 2, 5);
            x.copy(1, i / 4, i % 4);
            Due.same("two files of the same blocks", x.swap(1, i / 4, i % 4), want);
            Due.same("the one", x.read(1, 0, i / 4, 2), 5);
            Due.same("the other", x.read(1, 0, i % 4, 2), 5);
            Due.same("one block still", x.used(), 1);
        }
    }
}
