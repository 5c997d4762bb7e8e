/** Promise 16: mount. */
public final class Promise16MountTest {
    public static void main(String[] args) {
        Due.sentence("REFUSED when UP.");
        refusedWhenUp();
        Due.sentence("Else UP: the state is that of the newest checkpoint");
        newest();
        Due.sentence("the next checkpoint's number is its number + 1");
        nextNumber();
        Due.sentence("the checkpoints stay as they are");
        checkpointsStay();
        Due.sentence("Without a checkpoint: the empty state, next number 1.");
        empty();
        emptyAfterDamage();
        Due.sentence("Answers the newest checkpoint's number, or 0.");
        answers();
        Due.end();
    }

    private static void refusedWhenUp() {
        Due.refused("mount() without a checkpoint", c -> c.mount());
        CowContainer x = Due.filled(24);
        x.sync(0);
        x.write(0, 0, 0, 5);
        Due.unchanged("mount() with a checkpoint", x, c -> c.mount(), CowContainer.REFUSED);
        Due.same("the next number stays", x.sync(0), 2);
        x.crash();
        x.mount();
        Due.unchanged("mount() twice", x, c -> c.mount(), CowContainer.REFUSED);
    }

    private static void newest() {
        CowContainer x = Due.filled(24);
        x.sync(0);
        x.write(1, 1, 1, 5);
        x.drop(1, 2);
        x.snapshot(1, 1);
        x.sync(0);
        String synced = Due.look(x);
        x.revert(0, 1);
        x.crash();
        Due.same("mount()", x.mount(), 2);
        Due.holds("the state of the newest", synced.equals(Due.look(x)));
        Due.same("UP", x.info(0), 1);
        Due.same("the next number", x.sync(0), 3);
    }

    private static void checkpointsStay() {
        CowContainer x = new CowContainer(8);
        x.write(0, 0, 0, 1);
        x.sync(0);
        x.write(0, 0, 0, 2);
        x.sync(0);
        x.crash();
        x.mount();
        Due.same("two are there", x.info(1), 2);
        Due.same("the newest", x.info(2), 2);
        Due.same("both hold their blocks", x.used(), 2);
        Due.same("a write after the mount", x.write(0, 0, 0, 3), 3);
        x.crash();
        Due.same("mount again", x.mount(), 2);
        Due.same("the newest isn't written to", x.read(0, 0, 0, 0), 2);
    }

    private static void empty() {
        CowContainer x = Due.filled(24);
        x.crash();
        Due.same("mount() without a checkpoint", x.mount(), 0);
        Due.holds("the empty state", Due.look(x).equals(Due.look(new CowContainer(24))));
        Due.same("the next number", x.sync(0), 1);
    }

    private static void nextNumber() {
        CowContainer x = new CowContainer(4);
        for (int number = 1; number <= 5; number++) {
            x.sync(0);
        }
        x.crash();
        x.mount();
        Due.same("after a crash", x.sync(0), 6);
        x.sync(1);
        x.mount();
        Due.same("after a torn sync", x.sync(0), 7);
        x.sync(0);
        x.crash();
        x.damage(0);
        x.mount();
        Due.same("after a damage", x.sync(0), 8);
        x.crash();
        x.damage(0);
        x.mount();
        x.crash();
        x.mount();
        Due.same("after two mounts", x.sync(0), 8);
    }

    private static void emptyAfterDamage() {
        CowContainer x = Twins.synced(2);
        x.crash();
        x.damage(0);
        x.damage(0);
        Due.same("mount() after both are damaged", x.mount(), 0);
        Due.holds("the empty state", Due.look(x).equals(Due.look(new CowContainer(24))));
        Due.same("the next number", x.sync(0), 1);
        Due.same("the one after it", x.sync(0), 2);
    }

    private static void answers() {
        CowContainer x = new CowContainer(4);
        x.crash();
        Due.same("none", x.mount(), 0);
        for (int number = 1; number <= 4; number++) {
            x.sync(0);
            x.crash();
            Due.same("after sync no " + number, x.mount(), number);
            x.crash();
            Due.same("and again", x.mount(), number);
        }
        x.crash();
        x.damage(0);
        Due.same("after a damage", x.mount(), 3);
    }
}
