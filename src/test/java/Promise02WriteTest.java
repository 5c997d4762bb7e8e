/** Promise 2: write. */
public final class Promise02WriteTest {
    private static final long HOLE = CowContainer.HOLE;

    public static void main(String[] args) {
        Due.sentence("The place in the live tree's file gets a new block with the value.");
        everyPlace();
        everyValue();
        newBlockEachTime();
        Due.sentence("FULL if then more than BLOCKS blocks would be in use");
        full();
        fullAtEachLimit();
        noHoleAnywhere();
        Due.sentence("the block that the place held before counts only if it's still in use then");
        oldBlockMakesRoom();
        oldBlockKeptElsewhere();
        oldBlockKeptByCheckpoint();
        oldBlockKeptByEachTree();
        Due.sentence("Else the number of blocks now in use.");
        countsCheckpointsToo();
        Due.sentence(Due.EVERY_CALL);
        wrongInputs();
        Due.end();
    }

    private static void everyPlace() {
        for (int i = 0; i < 32; i++) {
            CowContainer x = new CowContainer(4);
            Due.same("first write", x.write(i / 16, i / 4 % 4, i % 4, 7), 1);
            for (int j = 0; j < 32; j++) {
                Due.same("place " + j + " after a write to " + i,
                    x.read(j / 16, 0, j / 4 % 4, j % 4), j == i ? 7 : HOLE);
            }
        }
    }

    private static void everyValue() {
        CowContainer x = new CowContainer(4);
        int[] values = {0, 1, -1, Integer.MIN_VALUE, Integer.MAX_VALUE, -4};
        for (int value : values) {
            Due.same("write(0, 1, 2, " + value + ")", x.write(0, 1, 2, value), 1);
            Due.same("read after it", x.read(0, 0, 1, 2), value);
        }
    }

    private static void newBlockEachTime() {
        CowContainer x = new CowContainer(8);
        x.write(0, 0, 0, 5);
        x.snapshot(0, 1);
        Due.same("the same value is another block", x.write(0, 0, 0, 5), 2);
        Due.same("nothing is shared", x.shared(0, 0, 1), 0);
        Due.same("the same value elsewhere", x.write(1, 0, 0, 5), 3);
        x.copy(0, 0, 1);
        Due.same("a clone's place gets a block of its own", x.write(0, 1, 0, 6), 4);
        Due.file("the clone's source", x, 0, 0, 5, HOLE, HOLE, HOLE);
        Due.file("the clone", x, 0, 1, 6, HOLE, HOLE, HOLE);
        Due.tree("the snapshot", x, 0, 1, 0, 5, HOLE, HOLE, HOLE);
    }

    private static void full() {
        CowContainer x = new CowContainer(4);
        x.write(0, 0, 0, 1);
        x.write(0, 0, 1, 2);
        x.write(1, 0, 0, 3);
        Due.same("the last block", x.write(1, 0, 1, 4), 4);
        Due.unchanged("one block too many", x, c -> c.write(1, 0, 2, 5), CowContainer.FULL);
        Due.unchanged("and in the other volume", x, c -> c.write(0, 3, 3, 5), CowContainer.FULL);
        x.cut(1, 0, 1);
        Due.same("after a cut there is room", x.write(0, 3, 3, 5), 4);
    }

    private static void oldBlockMakesRoom() {
        CowContainer x = new CowContainer(4);
        for (int i = 0; i < 4; i++) {
            x.write(0, 0, i, i);
        }
        Due.same("its own block is given back", x.write(0, 0, 2, 22), 4);
        Due.file("the others stay", x, 0, 0, 0, 1, 22, 3);
    }

    private static void oldBlockKeptElsewhere() {
        CowContainer x = new CowContainer(4);
        for (int i = 0; i < 4; i++) {
            x.write(0, 0, i, i);
        }
        x.copy(0, 0, 1);
        Due.unchanged("the clone holds it", x, c -> c.write(0, 0, 2, 22), CowContainer.FULL);
        x.cut(0, 1, 0);
        x.snapshot(0, 2);
        Due.unchanged("the snapshot holds it", x, c -> c.write(0, 0, 2, 22), CowContainer.FULL);
        x.drop(0, 2);
        Due.same("nothing else holds it", x.write(0, 0, 2, 22), 4);
    }

    private static void oldBlockKeptByCheckpoint() {
        CowContainer x = new CowContainer(4);
        for (int i = 0; i < 4; i++) {
            x.write(0, 0, i, i);
        }
        x.sync(0);
        Due.unchanged("the newest checkpoint holds it", x, c -> c.write(0, 0, 2, 22), CowContainer.FULL);
        x.cut(0, 0, 0);
        x.sync(0);
        Due.unchanged("the previous checkpoint holds it", x, c -> c.write(0, 0, 2, 22), CowContainer.FULL);
        x.sync(0);
        Due.same("no checkpoint holds it", x.write(0, 0, 2, 22), 1);
    }

    private static void wrongInputs() {
        for (int volume : Due.NO_VOLUME) {
            Due.refused("write(" + volume + ", 0, 0, 1)", c -> c.write(volume, 0, 0, 1));
        }
        for (int file : Due.NO_FILE) {
            Due.refused("write(1, " + file + ", 0, 1)", c -> c.write(1, file, 0, 1));
        }
        for (int place : Due.NO_PLACE) {
            Due.refused("write(0, 1, " + place + ", 1)", c -> c.write(0, 1, place, 1));
        }
        CowContainer y = new CowContainer(4);
        for (int i = 0; i < 4; i++) {
            y.write(0, 0, i, i);
        }
        Due.unchanged("out of range goes before FULL", y, c -> c.write(0, 0, 4, 1), CowContainer.REFUSED);
        Due.refusedWhenDown("write(0, 0, 0, 1)", c -> c.write(0, 0, 0, 1));
    }

    /** The last block but one, the last, and one too many; the limit falls between them. */
    private static void fullAtEachLimit() {
        for (int blocks = 4; blocks <= 24; blocks++) {
            CowContainer x = new CowContainer(blocks);
            for (int i = 0; i < blocks - 1; i++) {
                x.write(i / 16, i / 4 % 4, i % 4, i);
            }
            Due.same("the last of " + blocks, x.write(1, 3, 2, 1), blocks);
            Due.same("one more than " + blocks, x.write(1, 3, 3, 2), CowContainer.FULL);
            Due.same("and once more", x.write(1, 3, 3, 2), CowContainer.FULL);
            Due.same("the place is still a hole", x.read(1, 0, 3, 3), HOLE);
            Due.same("a new value for the last", x.write(1, 3, 2, 3), blocks);
            x.cut(1, 3, 2);
            Due.same("a cut makes room for one", x.write(1, 3, 3, 4), blocks);
            Due.same("and for no other", x.write(1, 3, 2, 5), CowContainer.FULL);
        }
    }

    /** Every place of the state and of both checkpoints holds one of eight blocks. */
    private static void noHoleAnywhere() {
        for (int blocks = 8; blocks <= 24; blocks++) {
            CowContainer x = new CowContainer(blocks);
            for (int volume = 0; volume < 2; volume++) {
                for (int place = 0; place < 4; place++) {
                    x.write(volume, 0, place, place);
                }
                for (int file = 1; file < 4; file++) {
                    x.copy(volume, 0, file);
                }
                Due.same("snapshot 1", x.snapshot(volume, 1), 16);
                Due.same("snapshot 2", x.snapshot(volume, 2), 16);
            }
            x.sync(0);
            x.sync(0);
            Due.same("used", x.used(), 8);
            for (int i = 0; i < 32; i++) {
                int want = 9 + i <= blocks ? 9 + i : CowContainer.FULL;
                Due.same("write no " + i + " with " + blocks, x.write(i / 16, i / 4 % 4, i % 4, 50), want);
            }
        }
    }

    /** Of a full container's block a clone is left in one tree alone, live or a snapshot. */
    private static void oldBlockKeptByEachTree() {
        for (int volume = 0; volume < 2; volume++) {
            for (int tree = 0; tree < 3; tree++) {
                CowContainer x = new CowContainer(4);
                for (int i = 0; i < 4; i++) {
                    x.write(0, 0, i, i);
                }
                cloneOnlyIn(x, volume, tree);
                String holder = "tree " + tree + " of volume " + volume;
                Due.same("write while " + holder + " holds it", x.write(0, 0, 2, 22), CowContainer.FULL);
                Due.file("the file stays", x, 0, 0, 0, 1, 2, 3);
                x.cut(volume, 1, 0);
                x.drop(volume, tree);
                Due.same("write when " + holder + " lets go", x.write(0, 0, 2, 22), 4);
                Due.file("the file is written", x, 0, 0, 0, 1, 22, 3);
            }
        }
    }

    private static void cloneOnlyIn(CowContainer x, int volume, int tree) {
        x.copy(0, 0, 1);
        if (volume == 1) {
            x.move(0, 1);
        }
        if (tree != 0) {
            x.snapshot(volume, tree);
            x.cut(volume, 1, 0);
        }
    }

    private static void countsCheckpointsToo() {
        CowContainer x = new CowContainer(8);
        Due.same("the first", x.write(0, 0, 0, 1), 1);
        Due.same("in its place", x.write(0, 0, 0, 2), 1);
        x.sync(0);
        Due.same("the newest checkpoint's counts", x.write(0, 0, 0, 3), 2);
        Due.same("the state's own doesn't", x.write(0, 0, 0, 4), 2);
        x.sync(0);
        Due.same("the previous one's counts too", x.write(0, 0, 0, 5), 3);
        x.sync(0);
        Due.same("an older one's doesn't", x.write(0, 0, 0, 6), 3);
        x.sync(1);
        x.mount();
        Due.same("after a torn sync the newest's alone", x.write(0, 0, 0, 7), 2);
        x.crash();
        x.damage(0);
        x.mount();
        Due.same("without a checkpoint", x.write(0, 0, 0, 8), 1);
    }
}
