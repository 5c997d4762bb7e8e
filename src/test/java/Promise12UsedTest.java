/** Promise 12: used. */
public final class Promise12UsedTest {
    public static void main(String[] args) {
        Due.sentence("The number of blocks in use");
        state();
        checkpoints();
        afterCrash();
        fromNoneToAll();
        Due.sentence("REFUSED when DOWN");
        Due.refusedWhenDown("used()", c -> c.used());
        whenDown();
        Due.end();
    }

    private static void state() {
        CowContainer x = new CowContainer(8);
        Due.same("empty", x.used(), 0);
        x.write(0, 0, 0, 1);
        x.write(1, 3, 3, 1);
        Due.same("equal values are two blocks", x.used(), 2);
        x.copy(0, 0, 1);
        x.snapshot(0, 1);
        x.snapshot(0, 2);
        Due.same("a block held often counts once", x.used(), 2);
        x.cut(0, 0, 0);
        x.cut(0, 1, 0);
        Due.same("snapshots hold it", x.used(), 2);
        x.drop(0, 1);
        Due.same("one snapshot holds it", x.used(), 2);
        x.drop(0, 2);
        Due.same("nothing holds it", x.used(), 1);
        Due.unchanged("used()", x, c -> c.used(), 1);
    }

    private static void checkpoints() {
        CowContainer x = new CowContainer(8);
        x.write(0, 0, 0, 1);
        x.snapshot(0, 1);
        x.sync(0);
        x.write(0, 0, 0, 2);
        x.drop(0, 1);
        Due.same("the newest checkpoint's block counts", x.used(), 2);
        x.sync(0);
        x.write(0, 0, 0, 3);
        Due.same("the previous one's counts too", x.used(), 3);
        x.sync(0);
        Due.same("an older one's doesn't", x.used(), 2);
    }

    private static void afterCrash() {
        CowContainer x = new CowContainer(8);
        x.write(0, 0, 0, 1);
        x.sync(0);
        x.write(0, 0, 1, 2);
        x.write(0, 0, 2, 3);
        Due.same("before the crash", x.used(), 3);
        x.crash();
        x.mount();
        Due.same("the lost state's blocks are gone", x.used(), 1);
        x.write(0, 0, 0, 4);
        x.sync(0);
        x.crash();
        x.damage(0);
        x.mount();
        Due.same("the damaged checkpoint's blocks are gone", x.used(), 1);
        x.crash();
        x.damage(0);
        x.mount();
        Due.same("without a checkpoint", x.used(), 0);
    }

    private static void fromNoneToAll() {
        for (int blocks = 4; blocks <= 24; blocks++) {
            CowContainer x = new CowContainer(blocks);
            Due.same("none of " + blocks, x.used(), 0);
            for (int i = 0; i < 32; i++) {
                x.write(i / 16, i / 4 % 4, i % 4, i);
                Due.same("after write no " + i, x.used(), Math.min(i + 1, blocks));
            }
        }
    }

    private static void whenDown() {
        CowContainer x = new CowContainer(4);
        x.crash();
        Due.same("without a checkpoint", x.used(), CowContainer.REFUSED);
        x.mount();
        Due.same("mounted", x.used(), 0);
        x.write(0, 0, 0, 1);
        x.sync(0);
        x.sync(1);
        Due.same("by a torn sync", x.used(), CowContainer.REFUSED);
        x.mount();
        Due.same("mounted again", x.used(), 1);
    }
}
