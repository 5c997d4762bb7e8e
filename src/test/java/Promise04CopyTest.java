/** Promise 4: copy. */
public final class Promise04CopyTest {
    private static final long HOLE = CowContainer.HOLE;

    public static void main(String[] args) {
        Due.sentence("Each place of the live tree's file 'to' becomes what it is in the live tree's file 'from'"
            + " (the same block or a hole).");
        blocksAndHoles();
        everyPair();
        ontoItself();
        noRoomNeeded();
        Due.sentence("Answers how many places of it hold a block.");
        everyPattern();
        Due.sentence(Due.EVERY_CALL);
        wrongInputs();
        Due.end();
    }

    private static void blocksAndHoles() {
        CowContainer x = new CowContainer(8);
        x.write(0, 1, 0, 10);
        x.write(0, 1, 2, 12);
        x.write(0, 3, 1, 31);
        x.write(0, 3, 2, 32);
        x.write(0, 3, 3, 33);
        Due.same("copy(0, 1, 3)", x.copy(0, 1, 3), 2);
        Due.file("the source", x, 0, 1, 10, HOLE, 12, HOLE);
        Due.file("the target takes the holes too", x, 0, 3, 10, HOLE, 12, HOLE);
        Due.same("the target's old blocks are gone", x.used(), 2);
        Due.file("the other volume", x, 1, 3, HOLE, HOLE, HOLE, HOLE);
        Due.same("an empty source", x.copy(0, 0, 3), 0);
        Due.file("the target of an empty source", x, 0, 3, HOLE, HOLE, HOLE, HOLE);
        Due.same("the source keeps its blocks", x.used(), 2);
    }

    private static void everyPair() {
        for (int from = 0; from < 4; from++) {
            for (int to = 0; to < 4; to++) {
                CowContainer x = new CowContainer(24);
                for (int i = 0; i < 16; i++) {
                    x.write(1, i / 4, i % 4, i);
                }
                Due.same("copy(1, " + from + ", " + to + ")", x.copy(1, from, to), 4);
                for (int i = 0; i < 16; i++) {
                    int file = i / 4 == to ? from : i / 4;
                    Due.same("read after it", x.read(1, 0, i / 4, i % 4), file * 4 + i % 4);
                }
                Due.same("used after it", x.used(), from == to ? 16 : 12);
            }
        }
    }

    private static void ontoItself() {
        CowContainer x = Due.filled(24);
        Due.unchanged("copy(0, 0, 0)", x, c -> c.copy(0, 0, 0), 2);
        Due.unchanged("copy(0, 3, 3)", x, c -> c.copy(0, 3, 3), 0);
    }

    private static void noRoomNeeded() {
        CowContainer x = new CowContainer(4);
        for (int i = 0; i < 4; i++) {
            x.write(0, 0, i, i);
        }
        for (int to = 1; to < 4; to++) {
            Due.same("copy when full", x.copy(0, 0, to), 4);
        }
        Due.same("used after the copies", x.used(), 4);
        Due.same("each block counts once", x.shared(0, 0, 0), 4);
    }

    private static void wrongInputs() {
        for (int volume : Due.NO_VOLUME) {
            Due.refused("copy(" + volume + ", 0, 1)", c -> c.copy(volume, 0, 1));
        }
        for (int file : Due.NO_FILE) {
            Due.refused("copy(0, " + file + ", 0)", c -> c.copy(0, file, 0));
            Due.refused("copy(0, 0, " + file + ")", c -> c.copy(0, 0, file));
            Due.refused("copy(0, " + file + ", " + file + ")", c -> c.copy(0, file, file));
        }
        Due.refusedWhenDown("copy(0, 0, 1)", c -> c.copy(0, 0, 1));
    }

    /** Every set of places of the source over every set of places of the target. */
    private static void everyPattern() {
        for (int sets = 0; sets < 256; sets++) {
            CowContainer x = new CowContainer(8);
            for (int i = 0; i < 8; i++) {
                if ((sets >> i & 1) != 0) {
                    x.write(1, 1 + i / 4, i % 4, i);
                }
            }
            int held = Integer.bitCount(sets & 15);
            Due.same("copy of " + (sets & 15) + " over " + (sets >> 4), x.copy(1, 1, 2), held);
            for (int place = 0; place < 4; place++) {
                long want = (sets >> place & 1) != 0 ? place : HOLE;
                Due.same("the source after it", x.read(1, 0, 1, place), want);
                Due.same("the target after it", x.read(1, 0, 2, place), want);
            }
            Due.same("used after it", x.used(), held);
        }
    }
}
