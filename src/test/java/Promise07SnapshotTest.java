/** Promise 7: snapshot. */
public final class Promise07SnapshotTest {
    private static final long HOLE = CowContainer.HOLE;

    public static void main(String[] args) {
        frozen();
        everyName();
        exists();
        noRoomNeeded();
        wrongInputs();
        Due.end();
    }

    private static void frozen() {
        CowContainer x = new CowContainer(24);
        for (int i = 0; i < 16; i += 2) {
            x.write(0, i / 4, i % 4, i);
        }
        x.copy(0, 0, 1);
        Due.same("places count, not blocks", x.snapshot(0, 1), 8);
        Due.same("no new blocks", x.used(), 6);
        x.write(0, 0, 0, 100);
        x.cut(0, 1, 0);
        x.swap(0, 2, 3);
        x.move(0, 2);
        Due.tree("frozen", x, 0, 1, 0, 0, HOLE, 2, HOLE);
        Due.tree("frozen", x, 0, 1, 1, 0, HOLE, 2, HOLE);
        Due.tree("frozen", x, 0, 1, 2, 8, HOLE, 10, HOLE);
        Due.tree("frozen", x, 0, 1, 3, 12, HOLE, 14, HOLE);
        Due.same("the second snapshot is as the tree is now", x.snapshot(0, 2), 4);
        Due.tree("the second one", x, 0, 2, 0, 100, HOLE, 2, HOLE);
        Due.tree("the second one", x, 0, 2, 1, HOLE, HOLE, HOLE, HOLE);
        Due.tree("the second one", x, 0, 2, 2, HOLE, HOLE, HOLE, HOLE);
        Due.tree("the second one", x, 0, 2, 3, 8, HOLE, 10, HOLE);
    }

    private static void everyName() {
        for (int volume = 0; volume < 2; volume++) {
            for (int tree = 1; tree < 3; tree++) {
                CowContainer x = new CowContainer(4);
                x.write(volume, 3, 3, 1);
                Due.same("snapshot(" + volume + ", " + tree + ")", x.snapshot(volume, tree), 1);
                for (int i = 0; i < 4; i++) {
                    boolean made = i / 2 == volume && i % 2 + 1 == tree;
                    Due.same("info(" + (4 + i) + ") after it", x.info(4 + i), made ? 1 : 0);
                    Due.same("read after it", x.read(i / 2, i % 2 + 1, 3, 3), made ? 1 : CowContainer.NONE);
                }
            }
        }
        Due.same("an empty tree", new CowContainer(4).snapshot(1, 1), 0);
    }

    private static void exists() {
        CowContainer x = Due.filled(24);
        Due.unchanged("snapshot(0, 1) again", x, c -> c.snapshot(0, 1), CowContainer.EXISTS);
        Due.unchanged("snapshot(1, 2) again", x, c -> c.snapshot(1, 2), CowContainer.EXISTS);
        Due.same("snapshot(1, 1), which isn't there", x.snapshot(1, 1), 3);
        CowContainer y = new CowContainer(4);
        y.snapshot(0, 1);
        Due.unchanged("an empty snapshot exists", y, c -> c.snapshot(0, 1), CowContainer.EXISTS);
        y.drop(0, 1);
        y.write(0, 0, 0, 1);
        Due.same("the name is free after a drop", y.snapshot(0, 1), 1);
    }

    private static void noRoomNeeded() {
        CowContainer x = new CowContainer(4);
        for (int i = 0; i < 4; i++) {
            x.write(0, i, i, i);
        }
        Due.same("snapshot 1 when full", x.snapshot(0, 1), 4);
        Due.same("snapshot 2 when full", x.snapshot(0, 2), 4);
        Due.same("used after them", x.used(), 4);
    }

    private static void wrongInputs() {
        for (int volume : Due.NO_VOLUME) {
            Due.refused("snapshot(" + volume + ", 1)", c -> c.snapshot(volume, 1));
        }
        for (int tree : Due.NO_SNAPSHOT_NAME) {
            Due.refused("snapshot(0, " + tree + ")", c -> c.snapshot(0, tree));
            Due.refused("snapshot(1, " + tree + ")", c -> c.snapshot(1, tree));
        }
        Due.refusedWhenDown("snapshot(0, 2)", c -> c.snapshot(0, 2));
        Due.refusedWhenDown("snapshot(0, 1)", c -> c.snapshot(0, 1));
    }
}
