/** Promise 3: cut. */
public final class Promise03CutTest {
    private static final long HOLE = CowContainer.HOLE;

    public static void main(String[] args) {
        Due.sentence("length 0..4");
        everyLength();
        Due.sentence("all places of the live tree's file from 'length' on become holes");
        sharedBlocksStay();
        Due.sentence("Answers how many of them held a block.");
        withHoles();
        everyPattern();
        Due.sentence(Due.EVERY_CALL);
        wrongInputs();
        Due.end();
    }

    private static void everyLength() {
        for (int length = 0; length <= 4; length++) {
            CowContainer x = new CowContainer(24);
            for (int i = 0; i < 12; i++) {
                x.write(1, i / 4, i % 4, i);
            }
            x.write(0, 1, 0, 99);
            Due.same("cut(1, 1, " + length + ")", x.cut(1, 1, length), 4 - length);
            for (int place = 0; place < 4; place++) {
                Due.same("place " + place + " cut to " + length,
                    x.read(1, 0, 1, place), place < length ? 4 + place : HOLE);
            }
            Due.file("the file before", x, 1, 0, 0, 1, 2, 3);
            Due.file("the file behind", x, 1, 2, 8, 9, 10, 11);
            Due.file("the other volume", x, 0, 1, 99, HOLE, HOLE, HOLE);
            Due.same("used after the cut", x.used(), 9 + length);
        }
    }

    private static void withHoles() {
        CowContainer x = new CowContainer(4);
        Due.same("an empty file", x.cut(0, 0, 0), 0);
        x.write(0, 3, 0, 1);
        x.write(0, 3, 2, 2);
        Due.same("a hole doesn't count", x.cut(0, 3, 1), 1);
        Due.same("cut again", x.cut(0, 3, 1), 0);
        Due.same("the rest", x.cut(0, 3, 0), 1);
        Due.same("used at the end", x.used(), 0);
    }

    private static void sharedBlocksStay() {
        CowContainer x = new CowContainer(4);
        x.write(0, 0, 0, 1);
        x.write(0, 0, 1, 2);
        x.copy(0, 0, 1);
        x.snapshot(0, 1);
        Due.same("cut of the clone", x.cut(0, 1, 0), 2);
        Due.file("its source", x, 0, 0, 1, 2, HOLE, HOLE);
        Due.same("cut of the source", x.cut(0, 0, 0), 2);
        Due.tree("the snapshot's source", x, 0, 1, 0, 1, 2, HOLE, HOLE);
        Due.tree("the snapshot's clone", x, 0, 1, 1, 1, 2, HOLE, HOLE);
        Due.same("used", x.used(), 2);
    }

    private static void wrongInputs() {
        for (int volume : Due.NO_VOLUME) {
            Due.refused("cut(" + volume + ", 0, 0)", c -> c.cut(volume, 0, 0));
        }
        for (int file : Due.NO_FILE) {
            Due.refused("cut(0, " + file + ", 0)", c -> c.cut(0, file, 0));
        }
        for (int length : Due.NO_LENGTH) {
            Due.refused("cut(0, 0, " + length + ")", c -> c.cut(0, 0, length));
        }
        Due.refusedWhenDown("cut(0, 0, 0)", c -> c.cut(0, 0, 0));
    }

    /** Every set of places that hold a block, cut to every length. */
    private static void everyPattern() {
        for (int set = 0; set < 16; set++) {
            for (int length = 0; length <= 4; length++) {
                CowContainer x = new CowContainer(4);
                for (int place = 0; place < 4; place++) {
                    if ((set >> place & 1) != 0) {
                        x.write(0, 3, place, place);
                    }
                }
                String call = "cut(0, 3, " + length + ") of places " + Integer.toBinaryString(set);
                Due.same(call, x.cut(0, 3, length), Integer.bitCount(set >> length));
                for (int place = 0; place < 4; place++) {
                    boolean there = place < length && (set >> place & 1) != 0;
                    Due.same("place " + place + " after it", x.read(0, 0, 3, place), there ? place : HOLE);
                }
                Due.same("used after it", x.used(), Integer.bitCount(set & (1 << length) - 1));
            }
        }
    }
}
