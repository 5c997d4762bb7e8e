/** Promise 13: sync. */
public final class Promise13SyncTest {
    public static void main(String[] args) {
        Due.sentence("The state is made a checkpoint.");
        wholeState();
        notTheStateItself();
        noRoomNeeded();
        Due.sentence("the newest checkpoint becomes the previous one (an older previous one is gone)");
        olderIsGone();
        Due.sentence("the state with the next number is the newest; answers its number");
        numbers();
        Due.sentence("Any other tear: the power fails meanwhile: the previous checkpoint is gone, the newest stays,"
            + " DOWN; answers 0.");
        torn();
        tornWithOne();
        tornWithNone();
        tornTwice();
        Due.sentence("REFUSED when DOWN.");
        Due.refusedWhenDown("sync(0)", c -> c.sync(0));
        Due.refusedWhenDown("sync(1)", c -> c.sync(1));
        tornWhenDown();
        Due.end();
    }

    private static void numbers() {
        CowContainer x = new CowContainer(4);
        for (int number = 1; number <= 9; number++) {
            Due.same("sync(0) no " + number, x.sync(0), number);
            Due.same("still UP", x.info(0), 1);
            Due.same("how many", x.info(1), number == 1 ? 1 : 2);
            Due.same("the newest", x.info(2), number);
        }
    }

    private static void olderIsGone() {
        CowContainer x = new CowContainer(4);
        for (int i = 1; i <= 4; i++) {
            x.write(0, 0, 0, i);
            x.sync(0);
        }
        Due.same("two checkpoints hold a block each", x.used(), 2);
        x.crash();
        Due.same("damage of 4", x.damage(0), 1);
        Due.same("mount of 3", x.mount(), 3);
        Due.same("the state of 3", x.read(0, 0, 0, 0), 3);
        x.crash();
        Due.same("damage of 3", x.damage(0), 0);
        Due.same("2 is gone", x.mount(), 0);
        Due.same("the empty state", x.read(0, 0, 0, 0), CowContainer.HOLE);
    }

    private static void wholeState() {
        CowContainer x = Due.filled(24);
        x.sync(0);
        String synced = Due.look(x);
        x.crash();
        x.mount();
        Due.holds("the whole state comes back", synced.equals(Due.look(x)));
    }

    private static void notTheStateItself() {
        CowContainer x = Due.filled(24);
        x.sync(0);
        String synced = Due.look(x);
        x.write(0, 0, 0, 77);
        x.cut(1, 3, 0);
        x.drop(0, 1);
        x.snapshot(0, 2);
        x.crash();
        x.mount();
        Due.holds("what comes after the sync is lost", synced.equals(Due.look(x)));
    }

    private static void torn() {
        int[] tears = {1, 2, 5, -1, 256, 65536, 1 << 30, Integer.MIN_VALUE, Integer.MAX_VALUE};
        for (int tear : tears) {
            CowContainer x = new CowContainer(8);
            x.write(0, 0, 0, 1);
            x.sync(0);
            x.write(0, 0, 0, 2);
            x.sync(0);
            x.write(0, 0, 0, 3);
            Due.same("sync(" + tear + ")", x.sync(tear), 0);
            Due.same("DOWN", x.info(0), 0);
            Due.same("the previous one is gone", x.info(1), 1);
            Due.same("the newest stays", x.info(2), 2);
            Due.same("mount", x.mount(), 2);
            Due.same("its state", x.read(0, 0, 0, 0), 2);
            Due.same("its blocks alone", x.used(), 1);
            Due.same("the next number", x.sync(0), 3);
            Due.same("two again", x.info(1), 2);
            x.crash();
            x.damage(0);
            Due.same("back to the newest of before", x.mount(), 2);
        }
    }

    private static void tornWithOne() {
        CowContainer x = new CowContainer(8);
        x.write(1, 0, 0, 1);
        x.sync(0);
        Due.same("torn with one checkpoint", x.sync(1), 0);
        Due.same("it stays", x.info(1), 1);
        Due.same("mount", x.mount(), 1);
        Due.same("its state", x.read(1, 0, 0, 0), 1);
    }

    private static void tornWithNone() {
        CowContainer x = new CowContainer(8);
        x.write(1, 0, 0, 1);
        Due.same("torn without a checkpoint", x.sync(1), 0);
        Due.same("none is made", x.info(1), 0);
        Due.same("no newest", x.info(2), 0);
        Due.same("DOWN", x.info(0), 0);
        Due.same("mount", x.mount(), 0);
        Due.same("the empty state", x.used(), 0);
        Due.same("the next number", x.sync(0), 1);
    }

    private static void noRoomNeeded() {
        CowContainer x = new CowContainer(4);
        for (int i = 0; i < 4; i++) {
            x.write(0, 0, i, i);
        }
        Due.same("sync when full", x.sync(0), 1);
        Due.same("sync when full again", x.sync(0), 2);
        Due.same("used after it", x.used(), 4);
    }

    private static void tornTwice() {
        CowContainer x = Twins.synced(2);
        Due.same("the first torn sync", x.sync(7), 0);
        x.mount();
        String newest = Due.look(x);
        Due.same("the second torn sync", x.sync(-7), 0);
        Due.same("the newest is still there", x.info(1), 1);
        Due.same("mount", x.mount(), 2);
        Due.holds("its state is whole", newest.equals(Due.look(x)));
        Due.same("the number that was torn is given", x.sync(0), 3);
    }

    /** A torn sync that is refused takes no checkpoint with it. */
    private static void tornWhenDown() {
        CowContainer x = Twins.synced(2);
        x.crash();
        Due.same("sync(1) when DOWN", x.sync(1), CowContainer.REFUSED);
        Due.same("sync(0) when DOWN", x.sync(0), CowContainer.REFUSED);
        Due.same("both are there", x.info(1), 2);
        Due.same("damage finds the previous one", x.damage(0), 1);
        Due.same("mount", x.mount(), 1);
    }
}
