/** Promise 11: shared. */
public final class Promise11SharedTest {
    public static void main(String[] args) {
        eachBlockOnce();
        anyPlace();
        snapshots();
        missing();
        wrongInputs();
        Due.end();
    }

    private static void eachBlockOnce() {
        CowContainer x = new CowContainer(8);
        x.write(0, 0, 0, 1);
        x.write(0, 0, 1, 1);
        x.copy(0, 0, 1);
        x.copy(0, 0, 2);
        Due.same("a tree with itself", x.shared(0, 0, 0), 2);
        x.snapshot(0, 1);
        Due.same("with its snapshot", x.shared(0, 0, 1), 2);
        Due.same("the other way round", x.shared(0, 1, 0), 2);
        Due.same("holes aren't blocks", new CowContainer(4).shared(0, 0, 0), 0);
        Due.same("the other volume", x.shared(1, 0, 0), 0);
    }

    private static void anyPlace() {
        CowContainer x = new CowContainer(8);
        x.write(0, 0, 0, 1);
        x.write(0, 0, 3, 2);
        x.snapshot(0, 1);
        x.swap(0, 0, 3);
        Due.same("the places may differ", x.shared(0, 0, 1), 2);
        x.write(0, 3, 0, 1);
        Due.same("an equal value isn't the same block", x.shared(0, 0, 1), 1);
        x.move(0, 3);
        Due.same("moved out", x.shared(0, 0, 1), 0);
        x.move(1, 3);
        Due.same("moved back", x.shared(0, 0, 1), 1);
    }

    private static void snapshots() {
        CowContainer x = new CowContainer(8);
        for (int i = 0; i < 4; i++) {
            x.write(1, 1, i, i);
        }
        x.snapshot(1, 1);
        x.write(1, 1, 0, 10);
        x.snapshot(1, 2);
        x.write(1, 1, 1, 11);
        x.write(1, 1, 2, 12);
        Due.same("1 and 2", x.shared(1, 1, 2), 3);
        Due.same("2 and 1", x.shared(1, 2, 1), 3);
        Due.same("0 and 1", x.shared(1, 0, 1), 1);
        Due.same("0 and 2", x.shared(1, 0, 2), 2);
        Due.same("2 and 2", x.shared(1, 2, 2), 4);
        Due.same("1 and 1", x.shared(1, 1, 1), 4);
    }

    private static void missing() {
        int[][] pairs = {{0, 0, 2}, {0, 2, 0}, {0, 1, 2}, {0, 2, 1}, {0, 2, 2}, {1, 0, 1}, {1, 1, 1}, {1, 2, 1}};
        for (int[] p : pairs) {
            Due.unchanged("shared(" + p[0] + ", " + p[1] + ", " + p[2] + ")", Due.filled(24),
                c -> c.shared(p[0], p[1], p[2]), CowContainer.MISSING);
        }
        Due.unchanged("shared(0, 0, 1)", Due.filled(24), c -> c.shared(0, 0, 1), 2);
    }

    private static void wrongInputs() {
        for (int volume : Due.NO_VOLUME) {
            Due.refused("shared(" + volume + ", 0, 0)", c -> c.shared(volume, 0, 0));
        }
        for (int tree : Due.NO_TREE) {
            Due.refused("shared(0, " + tree + ", 0)", c -> c.shared(0, tree, 0));
            Due.refused("shared(0, 0, " + tree + ")", c -> c.shared(0, 0, tree));
            Due.refused("out of range goes before MISSING", c -> c.shared(0, 2, tree));
            Due.refused("out of range goes before MISSING", c -> c.shared(0, tree, 2));
        }
        Due.refusedWhenDown("shared(0, 0, 0)", c -> c.shared(0, 0, 0));
        Due.refusedWhenDown("shared(0, 0, 2)", c -> c.shared(0, 0, 2));
    }
}
