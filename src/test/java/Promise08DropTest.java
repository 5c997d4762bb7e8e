/** Promise 8: drop. */
public final class Promise08DropTest {
    public static void main(String[] args) {
        Due.sentence("tree 1 or 2 (else REFUSED)");
        wrongNames();
        Due.sentence("MISSING if there is no such snapshot.");
        missing();
        missingAfterMount();
        Due.sentence("Else it's gone.");
        onlyTheNamed();
        anEmptyOne();
        Due.sentence("Answers the number of blocks now in use.");
        blocksGoAndStay();
        checkpointsHold();
        Due.sentence(Due.EVERY_CALL);
        wrongInputs();
        Due.end();
    }

    private static void blocksGoAndStay() {
        CowContainer x = new CowContainer(8);
        x.write(0, 0, 0, 1);
        x.write(0, 0, 1, 2);
        x.snapshot(0, 1);
        x.write(0, 0, 0, 3);
        x.snapshot(0, 2);
        x.write(0, 0, 0, 4);
        Due.same("used before", x.used(), 4);
        Due.same("drop(0, 1)", x.drop(0, 1), 3);
        Due.same("it is gone", x.read(0, 1, 0, 0), CowContainer.NONE);
        Due.same("the other snapshot stays", x.read(0, 2, 0, 0), 3);
        Due.same("the live tree stays", x.read(0, 0, 0, 0), 4);
        Due.same("drop(0, 2)", x.drop(0, 2), 2);
        Due.same("the live tree stays still", x.read(0, 0, 0, 1), 2);
    }

    private static void onlyTheNamed() {
        for (int i = 0; i < 4; i++) {
            CowContainer x = new CowContainer(8);
            for (int j = 0; j < 4; j++) {
                x.write(j / 2, 0, 0, j);
                x.snapshot(j / 2, j % 2 + 1);
            }
            x.cut(0, 0, 0);
            x.cut(1, 0, 0);
            Due.same("drop of snapshot " + i, x.drop(i / 2, i % 2 + 1), 3);
            for (int j = 0; j < 4; j++) {
                Due.same("info(" + (4 + j) + ") after it", x.info(4 + j), i == j ? 0 : 1);
                Due.same("read after it", x.read(j / 2, j % 2 + 1, 0, 0), i == j ? CowContainer.NONE : j);
            }
        }
    }

    private static void missing() {
        CowContainer x = Due.filled(24);
        Due.unchanged("drop(0, 2)", x, c -> c.drop(0, 2), CowContainer.MISSING);
        Due.unchanged("drop(1, 1)", x, c -> c.drop(1, 1), CowContainer.MISSING);
        CowContainer y = Due.filled(24);
        Due.same("drop(0, 1)", y.drop(0, 1), 6);
        Due.unchanged("drop(0, 1) again", y, c -> c.drop(0, 1), CowContainer.MISSING);
    }

    private static void checkpointsHold() {
        CowContainer x = new CowContainer(8);
        x.write(0, 0, 0, 1);
        x.snapshot(0, 1);
        x.cut(0, 0, 0);
        x.sync(0);
        Due.same("the newest checkpoint holds the block", x.drop(0, 1), 1);
        x.sync(0);
        Due.same("the previous checkpoint holds the block", x.used(), 1);
        x.sync(0);
        Due.same("nothing holds the block", x.used(), 0);
    }

    private static void wrongNames() {
        for (int tree : Due.NO_SNAPSHOT_NAME) {
            Due.refused("drop(0, " + tree + ")", c -> c.drop(0, tree));
            Due.refused("drop(1, " + tree + ")", c -> c.drop(1, tree));
        }
    }

    private static void wrongInputs() {
        for (int volume : Due.NO_VOLUME) {
            Due.refused("drop(" + volume + ", 1)", c -> c.drop(volume, 1));
        }
        Due.refusedWhenDown("drop(0, 1)", c -> c.drop(0, 1));
        Due.refusedWhenDown("drop(0, 2)", c -> c.drop(0, 2));
    }

    private static void missingAfterMount() {
        CowContainer x = new CowContainer(4);
        x.sync(0);
        x.snapshot(1, 1);
        x.crash();
        Due.same("REFUSED goes before MISSING", x.drop(1, 2), CowContainer.REFUSED);
        x.mount();
        Due.same("a snapshot after the sync is lost", x.drop(1, 1), CowContainer.MISSING);
        Due.same("in a new container", new CowContainer(4).drop(0, 1), CowContainer.MISSING);
    }

    private static void anEmptyOne() {
        CowContainer x = new CowContainer(4);
        x.snapshot(0, 2);
        Due.same("drop of an empty snapshot", x.drop(0, 2), 0);
        Due.same("it is gone", x.info(5), 0);
        Due.same("drop of it again", x.drop(0, 2), CowContainer.MISSING);
    }
}
