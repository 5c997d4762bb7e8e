/** Promise 2: write. */
public final class Promise02WriteTest {
    private static final long HOLE = CowContainer.HOLE;

    public static void main(String[] args) {
        everyPlace();
        everyValue();
        newBlockEachTime();
        full();
        oldBlockMakesRoom();
        oldBlockKeptElsewhere();
        oldBlockKeptByCheckpoint();
        wrongInputs();
        Due.end();
    }

    private static void everyPlace() {
        for (int i = 0; i < 32; i++) {
            CowContainer x = new CowContainer(4);
            Due.same("first write", x.write(i / 16, i / 4 % 4, i % 4, 7), 1);
            for (int j = 0; j < 32; j++) {
                Due.same("place " + j + " after a write to " + i,
                    x.read(j / 16, 0, j / 4 % 4, j % 4), j == i ? 7 : HOLE);
            }
        }
    }

    private static void everyValue() {
        CowContainer x = new CowContainer(4);
        int[] values = {0, 1, -1, Integer.MIN_VALUE, Integer.MAX_VALUE, -4};
        for (int value : values) {
            Due.same("write(0, 1, 2, " + value + ")", x.write(0, 1, 2, value), 1);
            Due.same("read after it", x.read(0, 0, 1, 2), value);
        }
    }

    private static void newBlockEachTime() {
        CowContainer x = new CowContainer(8);
        x.write(0, 0, 0, 5);
        x.snapshot(0, 1);
        Due.same("the same value is another block", x.write(0, 0, 0, 5), 2);
        Due.same("nothing is shared", x.shared(0, 0, 1), 0);
        Due.same("the same value elsewhere", x.write(1, 0, 0, 5), 3);
        x.copy(0, 0, 1);
        Due.same("a clone's place gets a block of its own", x.write(0, 1, 0, 6), 4);
        Due.file("the clone's source", x, 0, 0, 5, HOLE, HOLE, HOLE);
        Due.file("the clone", x, 0, 1, 6, HOLE, HOLE, HOLE);
        Due.tree("the snapshot", x, 0, 1, 0, 5, HOLE, HOLE, HOLE);
    }

    private static void full() {
        CowContainer x = new CowContainer(4);
        x.write(0, 0, 0, 1);
        x.write(0, 0, 1, 2);
        x.write(1, 0, 0, 3);
        Due.same("the last block", x.write(1, 0, 1, 4), 4);
        Due.unchanged("one block too many", x, c -> c.write(1, 0, 2, 5), CowContainer.FULL);
        Due.unchanged("and in the other volume", x, c -> c.write(0, 3, 3, 5), CowContainer.FULL);
        x.cut(1, 0, 1);
        Due.same("after a cut there is room", x.write(0, 3, 3, 5), 4);
    }

    private static void oldBlockMakesRoom() {
        CowContainer x = new CowContainer(4);
        for (int i = 0; i < 4; i++) {
            x.write(0, 0, i, i);
        }
        Due.same("its own block is given back", x.write(0, 0, 2, 22), 4);
        Due.file("the others stay", x, 0, 0, 0, 1, 22, 3);
    }

    private static void oldBlockKeptElsewhere() {
        CowContainer x = new CowContainer(4);
        for (int i = 0; i < 4; i++) {
            x.write(0, 0, i, i);
        }
        x.copy(0, 0, 1);
        Due.unchanged("the clone holds it", x, c -> c.write(0, 0, 2, 22), CowContainer.FULL);
        x.cut(0, 1, 0);
        x.snapshot(0, 2);
        Due.unchanged("the snapshot holds it", x, c -> c.write(0, 0, 2, 22), CowContainer.FULL);
        x.drop(0, 2);
        Due.same("nothing else holds it", x.write(0, 0, 2, 22), 4);
    }

    private static void oldBlockKeptByCheckpoint() {
        CowContainer x = new CowContainer(4);
        for (int i = 0; i < 4; i++) {
            x.write(0, 0, i, i);
        }
        x.sync(0);
        Due.unchanged("the newest checkpoint holds it", x, c -> c.write(0, 0, 2, 22), CowContainer.FULL);
        x.cut(0, 0, 0);
        x.sync(0);
        Due.unchanged("the previous checkpoint holds it", x, c -> c.write(0, 0, 2, 22), CowContainer.FULL);
        x.sync(0);
        Due.same("no checkpoint holds it", x.write(0, 0, 2, 22), 1);
    }

    private static void wrongInputs() {
        for (int volume : Due.NO_VOLUME) {
            Due.refused("write(" + volume + ", 0, 0, 1)", c -> c.write(volume, 0, 0, 1));
        }
        for (int file : Due.NO_FILE) {
            Due.refused("write(1, " + file + ", 0, 1)", c -> c.write(1, file, 0, 1));
        }
        for (int place : Due.NO_PLACE) {
            Due.refused("write(0, 1, " + place + ", 1)", c -> c.write(0, 1, place, 1));
        }
        CowContainer y = new CowContainer(4);
        for (int i = 0; i < 4; i++) {
            y.write(0, 0, i, i);
        }
        Due.unchanged("out of range goes before FULL", y, c -> c.write(0, 0, 4, 1), CowContainer.REFUSED);
        Due.refusedWhenDown("write(0, 0, 0, 1)", c -> c.write(0, 0, 0, 1));
    }
}
