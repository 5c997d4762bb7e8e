/** Promise 12: used. */
public final class Promise12UsedTest {
    public static void main(String[] args) {
        state();
        checkpoints();
        afterCrash();
        Due.refusedWhenDown("used()", c -> c.used());
        Due.end();
    }

    private static void state() {
        CowContainer x = new CowContainer(8);
        Due.same("empty", x.used(), 0);
        x.write(0, 0, 0, 1);
        x.write(1, 3, 3, 1);
        Due.same("equal values are two blocks", x.used(), 2);
        x.copy(0, 0, 1);
        x.snapshot(0, 1);
        x.snapshot(0, 2);
        Due.same("a block held often counts once", x.used(), 2);
        x.cut(0, 0, 0);
        x.cut(0, 1, 0);
        Due.same("snapshots hold it", x.used(), 2);
        x.drop(0, 1);
        Due.same("one snapshot holds it", x.used(), 2);
        x.drop(0, 2);
        Due.same("nothing holds it", x.used(), 1);
        Due.unchanged("used()", x, c -> c.used(), 1);
    }

    private static void checkpoints() {
        CowContainer x = new CowContainer(8);
        x.write(0, 0, 0, 1);
        x.snapshot(0, 1);
        x.sync(0);
        x.write(0, 0, 0, 2);
        x.drop(0, 1);
        Due.same("the newest checkpoint's block counts", x.used(), 2);
        x.sync(0);
        x.write(0, 0, 0, 3);
        Due.same("the previous one's counts too", x.used(), 3);
        x.sync(0);
        Due.same("an older one's doesn't", x.used(), 2);
    }

    private static void afterCrash() {
        CowContainer x = new CowContainer(8);
        x.write(0, 0, 0, 1);
        x.sync(0);
        x.write(0, 0, 1, 2);
        x.write(0, 0, 2, 3);
        Due.same("before the crash", x.used(), 3);
        x.crash();
        x.mount();
        Due.same("the lost state's blocks are gone", x.used(), 1);
        x.write(0, 0, 0, 4);
        x.sync(0);
        x.crash();
        x.damage(0);
        x.mount();
        Due.same("the damaged checkpoint's blocks are gone", x.used(), 1);
        x.crash();
        x.damage(0);
        x.mount();
        Due.same("without a checkpoint", x.used(), 0);
    }
}
