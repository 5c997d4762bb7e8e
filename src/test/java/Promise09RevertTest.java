/** Promise 9: revert. */
public final class Promise09RevertTest {
    private static final long HOLE = CowContainer.HOLE;

    public static void main(String[] args) {
        Due.sentence("tree 1 or 2 (else REFUSED)");
        wrongNames();
        Due.sentence("MISSING if there is no such snapshot.");
        missing();
        missingAfterMount();
        Due.sentence("Else the live tree becomes what the snapshot is, which stays.");
        ordinary();
        onlyTheNamed();
        toEmpty();
        sharesUntilWritten();
        Due.sentence("Answers the number of blocks now in use.");
        countsWhatStays();
        Due.sentence(Due.EVERY_CALL);
        wrongInputs();
        Due.end();
    }

    private static void ordinary() {
        CowContainer x = new CowContainer(24);
        for (int i = 0; i < 16; i += 2) {
            x.write(1, i / 4, i % 4, i);
        }
        x.snapshot(1, 2);
        for (int i = 0; i < 16; i += 3) {
            x.write(1, i / 4, i % 4, 100 + i);
        }
        x.write(0, 0, 0, 7);
        Due.same("used before", x.used(), 15);
        Due.same("revert(1, 2)", x.revert(1, 2), 9);
        for (int i = 0; i < 16; i++) {
            long want = i % 2 == 0 ? i : HOLE;
            Due.same("the live tree", x.read(1, 0, i / 4, i % 4), want);
            Due.same("the snapshot stays", x.read(1, 2, i / 4, i % 4), want);
        }
        Due.same("the same blocks", x.shared(1, 0, 2), 8);
        Due.same("the other volume", x.read(0, 0, 0, 0), 7);
        Due.same("once more", x.revert(1, 2), 9);
    }

    private static void onlyTheNamed() {
        for (int i = 0; i < 4; i++) {
            CowContainer x = new CowContainer(24);
            for (int j = 0; j < 4; j++) {
                x.write(j / 2, 3, 2, j);
                x.snapshot(j / 2, j % 2 + 1);
            }
            x.write(0, 3, 2, 10);
            x.write(1, 3, 2, 11);
            Due.same("revert to snapshot " + i, x.revert(i / 2, i % 2 + 1), 5);
            Due.same("live tree of volume 0", x.read(0, 0, 3, 2), i / 2 == 0 ? i : 10);
            Due.same("live tree of volume 1", x.read(1, 0, 3, 2), i / 2 == 1 ? i : 11);
            for (int j = 0; j < 4; j++) {
                Due.same("snapshot " + j, x.read(j / 2, j % 2 + 1, 3, 2), j);
            }
        }
    }

    private static void toEmpty() {
        CowContainer x = new CowContainer(4);
        x.snapshot(0, 1);
        x.write(0, 0, 0, 1);
        x.write(0, 3, 3, 2);
        Due.same("revert to an empty snapshot", x.revert(0, 1), 0);
        Due.file("the live tree", x, 0, 0, HOLE, HOLE, HOLE, HOLE);
        Due.file("the live tree", x, 0, 3, HOLE, HOLE, HOLE, HOLE);
    }

    private static void sharesUntilWritten() {
        CowContainer x = new CowContainer(4);
        x.write(0, 0, 0, 1);
        x.snapshot(0, 1);
        x.revert(0, 1);
        Due.same("a write after the revert", x.write(0, 0, 0, 2), 2);
        Due.same("doesn't reach the snapshot", x.read(0, 1, 0, 0), 1);
    }

    private static void missing() {
        CowContainer x = Due.filled(24);
        Due.unchanged("revert(0, 2)", x, c -> c.revert(0, 2), CowContainer.MISSING);
        Due.unchanged("revert(1, 1)", x, c -> c.revert(1, 1), CowContainer.MISSING);
        CowContainer y = Due.filled(24);
        y.drop(0, 1);
        Due.unchanged("revert(0, 1) after a drop", y, c -> c.revert(0, 1), CowContainer.MISSING);
    }

    private static void wrongNames() {
        for (int tree : Due.NO_SNAPSHOT_NAME) {
            Due.refused("revert(0, " + tree + ")", c -> c.revert(0, tree));
            Due.refused("revert(1, " + tree + ")", c -> c.revert(1, tree));
        }
    }

    private static void wrongInputs() {
        for (int volume : Due.NO_VOLUME) {
            Due.refused("revert(" + volume + ", 1)", c -> c.revert(volume, 1));
        }
        Due.refusedWhenDown("revert(0, 1)", c -> c.revert(0, 1));
        Due.refusedWhenDown("revert(0, 2)", c -> c.revert(0, 2));
    }

    private static void missingAfterMount() {
        CowContainer x = new CowContainer(4);
        x.write(1, 0, 0, 1);
        x.sync(0);
        x.snapshot(1, 1);
        x.crash();
        Due.same("REFUSED goes before MISSING", x.revert(1, 2), CowContainer.REFUSED);
        x.mount();
        Due.same("a snapshot after the sync is lost", x.revert(1, 1), CowContainer.MISSING);
        Due.same("the live tree stays", x.read(1, 0, 0, 0), 1);
        Due.same("in a new container", new CowContainer(4).revert(0, 2), CowContainer.MISSING);
    }

    /** The live tree's blocks go, but for those that something else holds. */
    private static void countsWhatStays() {
        CowContainer x = Twins.full(0);
        Due.same("full: revert of volume 0", x.revert(0, 1), 3);
        Due.same("full: revert of volume 1", x.revert(1, 2), 2);
        Due.same("revert again", x.revert(1, 2), 2);
        CowContainer y = Twins.full(1);
        Due.same("the newest checkpoint holds them", y.revert(0, 1), 4);
        y.sync(0);
        Due.same("the previous one holds them", y.revert(1, 2), 4);
        y.sync(0);
        Due.same("what the older one alone held is gone", y.revert(1, 2), 3);
        y.sync(0);
        Due.same("and at last the rest", y.revert(1, 2), 2);
    }
}
