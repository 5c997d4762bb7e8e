/** Promise 10: read. */
public final class Promise10ReadTest {
    private static final long HOLE = CowContainer.HOLE;
    private static final long NONE = CowContainer.NONE;

    public static void main(String[] args) {
        Due.sentence("tree 0..2");
        everyTree();
        Due.sentence("NONE where a call with an int answer would be REFUSED");
        wrongInputs();
        down();
        Due.sentence("or there is no such snapshot");
        noSuchSnapshot();
        Due.sentence("HOLE for a hole");
        holes();
        Due.sentence("else the block's value");
        values();
        Due.end();
    }

    private static void everyTree() {
        CowContainer x = Due.filled(24);
        Due.tree("live", x, 0, 0, 0, 100, HOLE, HOLE, 13);
        Due.tree("live", x, 0, 0, 2, HOLE, 21, HOLE, HOLE);
        Due.tree("snapshot 1", x, 0, 1, 0, 10, HOLE, HOLE, 13);
        Due.tree("no snapshot 2", x, 0, 2, 0, NONE, NONE, NONE, NONE);
        Due.tree("live", x, 1, 0, 2, HOLE, HOLE, 22, HOLE);
        Due.tree("live", x, 1, 0, 3, 30, HOLE, HOLE, HOLE);
        Due.tree("no snapshot 1", x, 1, 1, 3, NONE, NONE, NONE, NONE);
        Due.tree("snapshot 2", x, 1, 2, 1, HOLE, HOLE, -12, HOLE);
        Due.tree("snapshot 2", x, 1, 2, 2, HOLE, HOLE, HOLE, HOLE);
        x.drop(0, 1);
        Due.tree("a dropped snapshot", x, 0, 1, 0, NONE, NONE, NONE, NONE);
    }

    private static void values() {
        CowContainer x = new CowContainer(4);
        int[] values = {0, -1, -2, Integer.MIN_VALUE, Integer.MAX_VALUE};
        for (int value : values) {
            x.write(1, 2, 3, value);
            Due.same("the value as it is", x.read(1, 0, 2, 3), value);
        }
    }

    private static void wrongInputs() {
        CowContainer x = Due.filled(24);
        String before = Due.look(x);
        for (int volume : Due.NO_VOLUME) {
            Due.same("read(" + volume + ", 0, 0, 0)", x.read(volume, 0, 0, 0), NONE);
        }
        for (int tree : Due.NO_TREE) {
            Due.same("read(0, " + tree + ", 0, 0)", x.read(0, tree, 0, 0), NONE);
            Due.same("read(1, " + tree + ", 0, 0)", x.read(1, tree, 0, 0), NONE);
        }
        for (int file : Due.NO_FILE) {
            Due.same("read(0, 0, " + file + ", 0)", x.read(0, 0, file, 0), NONE);
            Due.same("read(0, 1, " + file + ", 0)", x.read(0, 1, file, 0), NONE);
        }
        for (int place : Due.NO_PLACE) {
            Due.same("read(0, 0, 0, " + place + ")", x.read(0, 0, 0, place), NONE);
            Due.same("read(0, 1, 0, " + place + ")", x.read(0, 1, 0, place), NONE);
        }
        Due.holds("reads change nothing", before.equals(Due.look(x)));
    }

    private static void down() {
        CowContainer x = Due.filled(24);
        x.sync(0);
        x.crash();
        for (int volume = 0; volume < 2; volume++) {
            for (int tree = 0; tree < 3; tree++) {
                for (int file = 0; file < 4; file++) {
                    Due.tree("DOWN", x, volume, tree, file, NONE, NONE, NONE, NONE);
                }
            }
        }
    }

    private static void noSuchSnapshot() {
        for (int i = 0; i < 4; i++) {
            CowContainer x = new CowContainer(4);
            int volume = i / 2;
            int tree = i % 2 + 1;
            x.write(volume, 1, 1, 5);
            Due.tree("not yet made", x, volume, tree, 1, NONE, NONE, NONE, NONE);
            x.snapshot(volume, 3 - tree);
            x.snapshot(1 - volume, tree);
            Due.tree("others are made", x, volume, tree, 1, NONE, NONE, NONE, NONE);
            x.snapshot(volume, tree);
            Due.tree("made", x, volume, tree, 1, HOLE, 5, HOLE, HOLE);
            x.drop(volume, tree);
            Due.tree("dropped", x, volume, tree, 1, NONE, NONE, NONE, NONE);
        }
    }

    private static void holes() {
        CowContainer x = new CowContainer(4);
        x.snapshot(0, 1);
        Due.tree("never written", x, 0, 0, 0, HOLE, HOLE, HOLE, HOLE);
        Due.tree("a snapshot's", x, 0, 1, 0, HOLE, HOLE, HOLE, HOLE);
        x.write(0, 0, 0, 1);
        x.cut(0, 0, 0);
        Due.tree("cut", x, 0, 0, 0, HOLE, HOLE, HOLE, HOLE);
        x.write(0, 0, 3, 2);
        x.move(0, 0);
        Due.tree("moved out", x, 0, 0, 0, HOLE, HOLE, HOLE, HOLE);
        Due.tree("moved in", x, 1, 0, 0, HOLE, HOLE, HOLE, 2);
        x.copy(1, 1, 0);
        Due.tree("copied over", x, 1, 0, 0, HOLE, HOLE, HOLE, HOLE);
    }
}
