/** Promise 1: a new object. */
public final class Promise01NewObjectTest {
    public static void main(String[] args) {
        Due.sentence("below 4 counts as 4");
        for (int blocks : new int[] {3, 2, 1, 0, -1, -4, -24, Integer.MIN_VALUE + 4, Integer.MIN_VALUE}) {
            limit(blocks, 4);
        }
        Due.sentence("blocks: BLOCKS");
        for (int blocks = 4; blocks <= 24; blocks++) {
            limit(blocks, blocks);
        }
        Due.sentence("above 24 as 24");
        for (int blocks : new int[] {25, 26, 32, 64, 256, 260, 65536 + 8, 1 << 30, Integer.MAX_VALUE}) {
            limit(blocks, 24);
        }
        Due.sentence("UP, the empty state, no checkpoint");
        empty();
        apart();
        Due.sentence("the next one has number 1");
        Due.same("the first sync(0)", new CowContainer(4).sync(0), 1);
        Due.end();
    }

    /** The limit is told by info, and is where write answers FULL. */
    private static void limit(int blocks, int want) {
        CowContainer x = new CowContainer(blocks);
        Due.same("new(" + blocks + ").info(3)", x.info(3), want);
        for (int i = 0; i < want; i++) {
            Due.same("new(" + blocks + ") write no " + i, x.write(i / 16, i / 4 % 4, i % 4, i), i + 1);
        }
        Due.same("new(" + blocks + ") write past the limit", x.write(1, 3, 3, 0), CowContainer.FULL);
    }

    private static void empty() {
        CowContainer x = new CowContainer(8);
        Due.same("new: UP", x.info(0), 1);
        Due.same("new: checkpoints", x.info(1), 0);
        Due.same("new: newest", x.info(2), 0);
        Due.same("new: used()", x.used(), 0);
        for (int what = 4; what < 8; what++) {
            Due.same("new: info(" + what + ")", x.info(what), 0);
        }
        for (int volume = 0; volume < 2; volume++) {
            for (int i = 0; i < 16; i++) {
                Due.same("new: live place", x.read(volume, 0, i / 4, i % 4), CowContainer.HOLE);
                Due.same("new: snapshot 1's place", x.read(volume, 1, i / 4, i % 4), CowContainer.NONE);
                Due.same("new: snapshot 2's place", x.read(volume, 2, i / 4, i % 4), CowContainer.NONE);
            }
        }
        Due.same("new: mount()", x.mount(), CowContainer.REFUSED);
        Due.same("new: crash()", x.crash(), 0);
        Due.same("new: damage(0)", x.damage(0), CowContainer.MISSING);
    }

    private static void apart() {
        CowContainer x = new CowContainer(4);
        CowContainer y = new CowContainer(4);
        x.write(0, 0, 0, 5);
        x.snapshot(0, 1);
        x.sync(0);
        Due.same("another object: used()", y.used(), 0);
        Due.same("another object: read", y.read(0, 0, 0, 0), CowContainer.HOLE);
        Due.same("another object: info(1)", y.info(1), 0);
        Due.same("another object: info(4)", y.info(4), 0);
    }
}
