/** Promise 14: crash. */
public final class Promise14CrashTest {
    public static void main(String[] args) {
        Due.sentence("The power fails: DOWN. Answers 0");
        down();
        checkpointsStay();
        withoutCheckpoint();
        Due.sentence("REFUSED when DOWN");
        Due.refusedWhenDown("crash()", c -> c.crash());
        afterTornSync();
        Due.end();
    }

    private static void down() {
        CowContainer x = Due.filled(24);
        Due.same("crash()", x.crash(), 0);
        Due.same("DOWN", x.info(0), 0);
        Due.same("crash() again", x.crash(), CowContainer.REFUSED);
        Due.same("no state to count", x.used(), CowContainer.REFUSED);
        Due.same("no state to read", x.read(0, 0, 0, 0), CowContainer.NONE);
        for (int what = 4; what < 8; what++) {
            Due.same("no snapshots", x.info(what), 0);
        }
    }

    private static void checkpointsStay() {
        CowContainer x = new CowContainer(8);
        x.write(0, 0, 0, 1);
        x.sync(0);
        x.write(0, 0, 0, 2);
        x.sync(0);
        x.write(0, 0, 0, 3);
        x.crash();
        Due.same("both stay", x.info(1), 2);
        Due.same("the newest stays", x.info(2), 2);
        Due.same("mount", x.mount(), 2);
        Due.same("the state before the last sync", x.read(0, 0, 0, 0), 2);
        x.crash();
        x.damage(0);
        x.mount();
        Due.same("the previous one is whole", x.read(0, 0, 0, 0), 1);
    }

    private static void withoutCheckpoint() {
        CowContainer x = Due.filled(24);
        x.crash();
        Due.same("no checkpoint", x.info(1), 0);
        Due.same("mount", x.mount(), 0);
        Due.holds("all is lost", Due.look(x).equals(Due.look(new CowContainer(24))));
    }

    private static void afterTornSync() {
        CowContainer x = new CowContainer(4);
        x.sync(1);
        Due.same("crash() after a torn sync", x.crash(), CowContainer.REFUSED);
        x.mount();
        Due.same("crash() after the mount", x.crash(), 0);
        Due.same("crash() once more", x.crash(), CowContainer.REFUSED);
    }
}
