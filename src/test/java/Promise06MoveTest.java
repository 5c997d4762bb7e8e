/** Promise 6: move. */
public final class Promise06MoveTest {
    private static final long HOLE = CowContainer.HOLE;

    public static void main(String[] args) {
        Due.sentence("Moves the live tree's file out of the volume");
        bothWays();
        Due.sentence("the same file of the other volume's live tree becomes what this one is, and this one becomes"
            + " all holes");
        everyFile();
        overwritten();
        sameBlocks();
        thereAndBack();
        Due.sentence("Answers how many places hold a block there now.");
        everyPattern();
        Due.sentence(Due.EVERY_CALL);
        wrongInputs();
        Due.end();
    }

    /** Out of either volume, and only the file that is named. */
    private static void bothWays() {
        CowContainer x = new CowContainer(4);
        x.write(0, 1, 2, 5);
        x.write(1, 2, 1, 6);
        Due.same("move out of volume 0", x.move(0, 1), 1);
        Due.same("move out of volume 1", x.move(1, 2), 1);
        Due.file("file 1 of volume 0", x, 0, 1, HOLE, HOLE, HOLE, HOLE);
        Due.file("file 1 of volume 1", x, 1, 1, HOLE, HOLE, 5, HOLE);
        Due.file("file 2 of volume 0", x, 0, 2, HOLE, 6, HOLE, HOLE);
        Due.file("file 2 of volume 1", x, 1, 2, HOLE, HOLE, HOLE, HOLE);
    }

    private static void everyFile() {
        for (int volume = 0; volume < 2; volume++) {
            for (int file = 0; file < 4; file++) {
                CowContainer x = new CowContainer(24);
                for (int i = 0; i < 16; i++) {
                    x.write(volume, i / 4, i % 4, i);
                }
                x.cut(volume, file, file);
                Due.same("move(" + volume + ", " + file + ")", x.move(volume, file), file);
                for (int i = 0; i < 16; i++) {
                    boolean moved = i / 4 == file;
                    Due.same("here", x.read(volume, 0, i / 4, i % 4), moved ? HOLE : i);
                    Due.same("there", x.read(1 - volume, 0, i / 4, i % 4),
                        moved && i % 4 < file ? i : HOLE);
                }
                Due.same("used after it", x.used(), 12 + file);
            }
        }
    }

    private static void overwritten() {
        CowContainer x = new CowContainer(8);
        x.write(0, 1, 0, 1);
        x.write(1, 1, 0, 2);
        x.write(1, 1, 1, 3);
        x.write(1, 1, 2, 4);
        Due.same("move over a file", x.move(0, 1), 1);
        Due.file("there, holes too", x, 1, 1, 1, HOLE, HOLE, HOLE);
        Due.file("here", x, 0, 1, HOLE, HOLE, HOLE, HOLE);
        Due.same("the blocks there are gone", x.used(), 1);
        Due.same("move of an empty file", x.move(0, 1), 0);
        Due.file("there after an empty one", x, 1, 1, HOLE, HOLE, HOLE, HOLE);
        Due.same("nothing is left", x.used(), 0);
    }

    private static void sameBlocks() {
        CowContainer x = new CowContainer(4);
        for (int i = 0; i < 4; i++) {
            x.write(0, 2, i, i);
        }
        x.snapshot(0, 1);
        Due.same("move when full", x.move(0, 2), 4);
        Due.same("the snapshot and the other volume hold the same blocks", x.used(), 4);
        Due.same("the snapshot here stays", x.read(0, 1, 2, 3), 3);
        Due.same("no snapshot is made there", x.read(1, 1, 2, 3), CowContainer.NONE);
        x.cut(1, 2, 0);
        Due.same("the snapshot still holds them", x.used(), 4);
        x.drop(0, 1);
        Due.same("and then nothing", x.used(), 0);
    }

    private static void wrongInputs() {
        for (int volume : Due.NO_VOLUME) {
            Due.refused("move(" + volume + ", 0)", c -> c.move(volume, 0));
        }
        for (int file : Due.NO_FILE) {
            Due.refused("move(0, " + file + ")", c -> c.move(0, file));
            Due.refused("move(1, " + file + ")", c -> c.move(1, file));
        }
        Due.refusedWhenDown("move(0, 0)", c -> c.move(0, 0));
    }

    private static void thereAndBack() {
        CowContainer x = Twins.full(2);
        Due.same("move when full", x.move(1, 3), 1);
        Due.file("there", x, 0, 3, HOLE, HOLE, HOLE, 4);
        Due.file("here", x, 1, 3, HOLE, HOLE, HOLE, HOLE);
        Due.same("used after it", x.used(), 4);
        Due.same("move back", x.move(0, 3), 1);
        Due.file("here again", x, 1, 3, HOLE, HOLE, HOLE, 4);
        Due.file("no longer there", x, 0, 3, HOLE, HOLE, HOLE, HOLE);
        Due.same("the snapshot of it", x.read(1, 2, 3, 3), 2);
    }

    /** Every set of places of the file here over every set of places of the file there. */
    private static void everyPattern() {
        for (int sets = 0; sets < 256; sets++) {
            CowContainer x = new CowContainer(8);
            for (int i = 0; i < 8; i++) {
                if ((sets >> i & 1) != 0) {
                    x.write(1 - i / 4, 2, i % 4, i);
                }
            }
            int held = Integer.bitCount(sets & 15);
            Due.same("move of " + (sets & 15) + " over " + (sets >> 4), x.move(1, 2), held);
            for (int place = 0; place < 4; place++) {
                Due.same("here after it", x.read(1, 0, 2, place), HOLE);
                Due.same("there after it", x.read(0, 0, 2, place), (sets >> place & 1) != 0 ? place : HOLE);
            }
            Due.same("used after it", x.used(), held);
        }
    }
}
