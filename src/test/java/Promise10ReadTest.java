/** Promise 10: read. */
public final class Promise10ReadTest {
    private static final long HOLE = CowContainer.HOLE;
    private static final long NONE = CowContainer.NONE;

    public static void main(String[] args) {
        everyTree();
        values();
        wrongInputs();
        down();
        Due.end();
    }

    private static void everyTree() {
        CowContainer x = Due.filled(24);
        Due.tree("live", x, 0, 0, 0, 100, HOLE, HOLE, 13);
        Due.tree("live", x, 0, 0, 2, HOLE, 21, HOLE, HOLE);
        Due.tree("snapshot 1", x, 0, 1, 0, 10, HOLE, HOLE, 13);
        Due.tree("no snapshot 2", x, 0, 2, 0, NONE, NONE, NONE, NONE);
        Due.tree("live", x, 1, 0, 2, HOLE, HOLE, 22, HOLE);
        Due.tree("live", x, 1, 0, 3, 30, HOLE, HOLE, HOLE);
        Due.tree("no snapshot 1", x, 1, 1, 3, NONE, NONE, NONE, NONE);
        Due.tree("snapshot 2", x, 1, 2, 1, HOLE, HOLE, -12, HOLE);
        Due.tree("snapshot 2", x, 1, 2, 2, HOLE, HOLE, HOLE, HOLE);
        x.drop(0, 1);
        Due.tree("a dropped snapshot", x, 0, 1, 0, NONE, NONE, NONE, NONE);
    }

    private static void values() {
        CowContainer x = new CowContainer(4);
        int[] values = {0, -1, -2, Integer.MIN_VALUE, Integer.MAX_VALUE};
        for (int value : values) {
            x.write(1, 2, 3, value);
            Due.same("the value as it is", x.read(1, 0, 2, 3), value);
        }
    }

    private static void wrongInputs() {
        CowContainer x = Due.filled(24);
        String before = Due.look(x);
        for (int volume : Due.NO_VOLUME) {
            Due.same("read(" + volume + ", 0, 0, 0)", x.read(volume, 0, 0, 0), NONE);
        }
        for (int tree : Due.NO_TREE) {
            Due.same("read(0, " + tree + ", 0, 0)", x.read(0, tree, 0, 0), NONE);
            Due.same("read(1, " + tree + ", 0, 0)", x.read(1, tree, 0, 0), NONE);
        }
        for (int file : Due.NO_FILE) {
            Due.same("read(0, 0, " + file + ", 0)", x.read(0, 0, file, 0), NONE);
            Due.same("read(0, 1, " + file + ", 0)", x.read(0, 1, file, 0), NONE);
        }
        for (int place : Due.NO_PLACE) {
            Due.same("read(0, 0, 0, " + place + ")", x.read(0, 0, 0, place), NONE);
            Due.same("read(0, 1, 0, " + place + ")", x.read(0, 1, 0, place), NONE);
        }
        Due.holds("reads change nothing", before.equals(Due.look(x)));
    }

    private static void down() {
        CowContainer x = Due.filled(24);
        x.sync(0);
        x.crash();
        for (int volume = 0; volume < 2; volume++) {
            for (int tree = 0; tree < 3; tree++) {
                for (int file = 0; file < 4; file++) {
                    Due.tree("DOWN", x, volume, tree, file, NONE, NONE, NONE, NONE);
                }
            }
        }
    }
}
