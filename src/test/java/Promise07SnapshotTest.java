/** Promise 7: snapshot. */
public final class Promise07SnapshotTest {
    private static final long HOLE = CowContainer.HOLE;

    public static void main(String[] args) {
        Due.sentence("tree 1 or 2 (else REFUSED)");
        wrongNames();
        Due.sentence("EXISTS if there is this snapshot.");
        exists();
        existsAfterMount();
        Due.sentence("Else it's the live tree as it is now.");
        frozen();
        everyName();
        noRoomNeeded();
        Due.sentence("Answers how many places of it hold a block.");
        fromNoneToSixteen();
        Due.sentence(Due.EVERY_CALL);
        wrongInputs();
        Due.end();
    }

    private static void frozen() {
        CowContainer x = new CowContainer(24);
        for (int i = 0; i < 16; i += 2) {
            x.write(0, i / 4, i % 4, i);
        }
        x.copy(0, 0, 1);
        Due.same("places count, not blocks", x.snapshot(0, 1), 8);
        Due.same("no new blocks", x.used(), 6);
        x.write(0, 0, 0, 100);
        x.cut(0, 1, 0);
        x.swap(0, 2, 3);
        x.move(0, 2);
        Due.tree("frozen", x, 0, 1, 0, 0, HOLE, 2, HOLE);
        Due.tree("frozen", x, 0, 1, 1, 0, HOLE, 2, HOLE);
        Due.tree("frozen", x, 0, 1, 2, 8, HOLE, 10, HOLE);
        Due.tree("frozen", x, 0, 1, 3, 12, HOLE, 14, HOLE);
        Due.same("the second snapshot is as the tree is now", x.snapshot(0, 2), 4);
        Due.tree("the second one", x, 0, 2, 0, 100, HOLE, 2, HOLE);
        Due.tree("the second one", x, 0, 2, 1, HOLE, HOLE, HOLE, HOLE);
        Due.tree("the second one", x, 0, 2, 2, HOLE, HOLE, HOLE, HOLE);
        Due.tree("the second one", x, 0, 2, 3, 8, HOLE, 10, HOLE);
    }

    private static void everyName() {
        for (int volume = 0; volume < 2; volume++) {
            for (int tree = 1; tree < 3; tree++) {
                CowContainer x = new CowContainer(4);
                x.write(volume, 3, 3, 1);
                Due.same("snapshot(" + volume + ", " + tree + ")", x.snapshot(volume, tree), 1);
                for (int i = 0; i < 4; i++) {
                    boolean made = i / 2 == volume && i % 2 + 1 == tree;
                    Due.same("info(" + (4 + i) + ") after it", x.info(4 + i), made ? 1 : 0);
                    Due.same("read after it", x.read(i / 2, i % 2 + 1, 3, 3), made ? 1 : CowContainer.NONE);
                }
            }
        }
        Due.same("an empty tree", new CowContainer(4).snapshot(1, 1), 0);
    }

    private static void exists() {
        CowContainer x = Due.filled(24);
        Due.unchanged("snapshot(0, 1) again", x, c -> c.snapshot(0, 1), CowContainer.EXISTS);
        Due.unchanged("snapshot(1, 2) again", x, c -> c.snapshot(1, 2), CowContainer.EXISTS);
        Due.same("snapshot(1, 1), which isn't there", x.snapshot(1, 1), 3);
        CowContainer y = new CowContainer(4);
        y.snapshot(0, 1);
        Due.unchanged("an empty snapshot exists", y, c -> c.snapshot(0, 1), CowContainer.EXISTS);
        y.drop(0, 1);
        y.write(0, 0, 0, 1);
        Due.same("the name is free after a drop", y.snapshot(0, 1), 1);
    }

    private static void noRoomNeeded() {
        CowContainer x = new CowContainer(4);
        for (int i = 0; i < 4; i++) {
            x.write(0, i, i, i);
        }
        Due.same("snapshot 1 when full", x.snapshot(0, 1), 4);
        Due.same("snapshot 2 when full", x.snapshot(0, 2), 4);
        Due.same("used after them", x.used(), 4);
    }

    private static void wrongNames() {
        for (int tree : Due.NO_SNAPSHOT_NAME) {
            Due.refused("snapshot(0, " + tree + ")", c -> c.snapshot(0, tree));
            Due.refused("snapshot(1, " + tree + ")", c -> c.snapshot(1, tree));
        }
    }

    private static void wrongInputs() {
        for (int volume : Due.NO_VOLUME) {
            Due.refused("snapshot(" + volume + ", 1)", c -> c.snapshot(volume, 1));
        }
        Due.refusedWhenDown("snapshot(0, 2)", c -> c.snapshot(0, 2));
        Due.refusedWhenDown("snapshot(0, 1)", c -> c.snapshot(0, 1));
    }

    private static void existsAfterMount() {
        CowContainer x = new CowContainer(4);
        x.snapshot(0, 1);
        x.sync(0);
        x.snapshot(0, 2);
        x.drop(0, 1);
        x.crash();
        Due.same("REFUSED goes before EXISTS", x.snapshot(0, 1), CowContainer.REFUSED);
        x.mount();
        Due.same("the checkpoint's snapshot is there again", x.snapshot(0, 1), CowContainer.EXISTS);
        Due.same("a later one is lost", x.snapshot(0, 2), 0);
        x.crash();
        x.damage(0);
        x.mount();
        Due.same("without a checkpoint none is there", x.snapshot(0, 1), 0);
    }

    /** The tree's places one by one, until all sixteen of them hold the blocks of one file. */
    private static void fromNoneToSixteen() {
        CowContainer x = new CowContainer(4);
        Due.same("snapshot of an empty tree", x.snapshot(1, 2), 0);
        for (int i = 0; i < 4; i++) {
            x.write(1, 0, i, i);
            x.drop(1, 2);
            Due.same("snapshot of " + (i + 1) + " places", x.snapshot(1, 2), i + 1);
        }
        for (int file = 1; file < 4; file++) {
            x.copy(1, 0, file);
            x.drop(1, 2);
            Due.same("snapshot of " + (file + 1) + " files", x.snapshot(1, 2), 4 * file + 4);
        }
        Due.same("four blocks in all", x.used(), 4);
        Due.same("the other volume's tree is empty", x.snapshot(0, 2), 0);
    }
}
