/** Promise 11: shared. */
public final class Promise11SharedTest {
    public static void main(String[] args) {
        Due.sentence("trees a and b 0..2");
        everyPairOfTrees();
        Due.sentence("MISSING if one of the two trees of the volume isn't there.");
        missing();
        Due.sentence("Else how many blocks are held both by some place of tree a and by some place of tree b");
        anyPlace();
        snapshots();
        fromNoneToAll();
        Due.sentence("each block counted once");
        eachBlockOnce();
        Due.sentence(Due.EVERY_CALL);
        wrongInputs();
        Due.end();
    }

    private static void eachBlockOnce() {
        CowContainer x = new CowContainer(8);
        x.write(0, 0, 0, 1);
        x.write(0, 0, 1, 1);
        x.copy(0, 0, 1);
        x.copy(0, 0, 2);
        Due.same("a tree with itself", x.shared(0, 0, 0), 2);
        x.snapshot(0, 1);
        Due.same("with its snapshot", x.shared(0, 0, 1), 2);
        Due.same("the other way round", x.shared(0, 1, 0), 2);
        Due.same("holes aren't blocks", new CowContainer(4).shared(0, 0, 0), 0);
        Due.same("the other volume", x.shared(1, 0, 0), 0);
    }

    private static void anyPlace() {
        CowContainer x = new CowContainer(8);
        x.write(0, 0, 0, 1);
        x.write(0, 0, 3, 2);
        x.snapshot(0, 1);
        x.swap(0, 0, 3);
        Due.same("the places may differ", x.shared(0, 0, 1), 2);
        x.write(0, 3, 0, 1);
        Due.same("an equal value isn't the same block", x.shared(0, 0, 1), 1);
        x.move(0, 3);
        Due.same("moved out", x.shared(0, 0, 1), 0);
        x.move(1, 3);
        Due.same("moved back", x.shared(0, 0, 1), 1);
    }

    private static void snapshots() {
        CowContainer x = new CowContainer(8);
        for (int i = 0; i < 4; i++) {
            x.write(1, 1, i, i);
        }
        x.snapshot(1, 1);
        x.write(1, 1, 0, 10);
        x.snapshot(1, 2);
        x.write(1, 1, 1, 11);
        x.write(1, 1, 2, 12);
        Due.same("1 and 2", x.shared(1, 1, 2), 3);
        Due.same("2 and 1", x.shared(1, 2, 1), 3);
        Due.same("0 and 1", x.shared(1, 0, 1), 1);
        Due.same("0 and 2", x.shared(1, 0, 2), 2);
        Due.same("2 and 2", x.shared(1, 2, 2), 4);
        Due.same("1 and 1", x.shared(1, 1, 1), 4);
    }

    private static void missing() {
        int[][] pairs = {{0, 0, 2}, {0, 2, 0}, {0, 1, 2}, {0, 2, 1}, {0, 2, 2}, {1, 0, 1}, {1, 1, 1}, {1, 2, 1}};
        for (int[] p : pairs) {
            Due.unchanged("shared(" + p[0] + ", " + p[1] + ", " + p[2] + ")", Due.filled(24),
                c -> c.shared(p[0], p[1], p[2]), CowContainer.MISSING);
        }
        Due.unchanged("shared(0, 0, 1)", Due.filled(24), c -> c.shared(0, 0, 1), 2);
    }

    private static void wrongInputs() {
        for (int volume : Due.NO_VOLUME) {
            Due.refused("shared(" + volume + ", 0, 0)", c -> c.shared(volume, 0, 0));
        }
        for (int tree : Due.NO_TREE) {
            Due.refused("shared(0, " + tree + ", 0)", c -> c.shared(0, tree, 0));
            Due.refused("shared(0, 0, " + tree + ")", c -> c.shared(0, 0, tree));
            Due.refused("out of range goes before MISSING", c -> c.shared(0, 2, tree));
            Due.refused("out of range goes before MISSING", c -> c.shared(0, tree, 2));
        }
        Due.refusedWhenDown("shared(0, 0, 0)", c -> c.shared(0, 0, 0));
        Due.refusedWhenDown("shared(0, 0, 2)", c -> c.shared(0, 0, 2));
    }

    private static void everyPairOfTrees() {
        for (int i = 0; i < 18; i++) {
            CowContainer x = new CowContainer(4);
            int volume = i / 9;
            int a = i / 3 % 3;
            int b = i % 3;
            x.write(volume, 1, 1, 5);
            int want = a == 0 && b == 0 ? 1 : CowContainer.MISSING;
            String call = "shared(" + volume + ", " + a + ", " + b + ")";
            Due.same(call + " without snapshots", x.shared(volume, a, b), want);
            x.snapshot(1 - volume, 1);
            x.snapshot(1 - volume, 2);
            Due.same(call + " with the other volume's", x.shared(volume, a, b), want);
            x.snapshot(volume, 1);
            x.snapshot(volume, 2);
            Due.same(call + " with both", x.shared(volume, a, b), 1);
            x.drop(volume, 2);
            Due.same(call + " with 1 alone", x.shared(volume, a, b), a < 2 && b < 2 ? 1 : CowContainer.MISSING);
        }
    }

    /** All sixteen places of both trees, of which one after the other gets a block of its own. */
    private static void fromNoneToAll() {
        CowContainer x = new CowContainer(24);
        Due.same("an empty tree", x.shared(0, 0, 0), 0);
        for (int i = 0; i < 16; i++) {
            x.write(0, i / 4, i % 4, 5);
        }
        x.snapshot(0, 2);
        Due.same("all sixteen", x.shared(0, 0, 2), 16);
        for (int i = 0; i < 8; i++) {
            x.write(0, i / 4, i % 4, 5);
            Due.same("all but " + (i + 1), x.shared(0, 0, 2), 15 - i);
        }
        Due.same("the live tree has sixteen still", x.shared(0, 0, 0), 16);
        for (int file = 0; file < 4; file++) {
            x.cut(0, file, 0);
        }
        Due.same("none", x.shared(0, 0, 2), 0);
        Due.same("the snapshot has sixteen still", x.shared(0, 2, 2), 16);
    }
}
