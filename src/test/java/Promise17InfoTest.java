/** Promise 17: info. */
public final class Promise17InfoTest {
    public static void main(String[] args) {
        Due.sentence("what 0: 1 if UP, else 0.");
        up();
        Due.sentence("1: how many checkpoints there are.");
        checkpoints(1, 0, 1, 2, 2, 1, 1, 2, 2, 1, 0, 0);
        Due.sentence("2: the number of the newest, 0 if there is none.");
        checkpoints(2, 0, 1, 2, 3, 3, 3, 4, 4, 3, 0, 0);
        Due.sentence("3: BLOCKS.");
        blocks();
        Due.sentence("4..7: 1 if the state has snapshot 1 of volume 0, snapshot 2 of volume 0, snapshot 1 of volume 1,"
            + " snapshot 2 of volume 1, else 0");
        snapshots();
        Due.sentence("(0 when DOWN)");
        snapshotsWhenDown();
        Due.sentence("Any other: REFUSED.");
        otherWhat();
        Due.end();
    }

    private static void up() {
        CowContainer x = new CowContainer(9);
        Due.same("UP", x.info(0), 1);
        x.crash();
        Due.same("DOWN", x.info(0), 0);
        x.mount();
        Due.same("UP again", x.info(0), 1);
        x.sync(1);
        Due.same("DOWN by a torn sync", x.info(0), 0);
    }

    /** The same past for both: none, one, two, two; a torn sync; two; a crash; damage and damage. */
    private static void checkpoints(int what, int... want) {
        CowContainer x = new CowContainer(9);
        Due.same("a new one's info(" + what + ")", x.info(what), want[0]);
        Call[] calls = {
            Call.of("sync", 0), Call.of("sync", 0), Call.of("sync", 0), Call.of("sync", 1), Call.of("mount"),
            Call.of("sync", 0), Call.of("crash"), Call.of("damage", 0), Call.of("damage", 0), Call.of("mount"),
        };
        for (int i = 0; i < calls.length; i++) {
            calls[i].on(x);
            Due.same("info(" + what + ") after " + calls[i].text() + " no " + i, x.info(what), want[i + 1]);
        }
    }

    private static void snapshots() {
        for (int set = 0; set < 16; set++) {
            CowContainer x = withSnapshots(set);
            bits("UP", x, set);
            x.sync(0);
            x.crash();
            x.mount();
            bits("mounted", x, set);
            for (int i = 0; i < 4; i++) {
                x.drop(i / 2, i % 2 + 1);
                bits("dropped up to " + i, x, set >> i + 1 << i + 1);
            }
        }
    }

    private static void snapshotsWhenDown() {
        for (int set = 0; set < 16; set++) {
            CowContainer x = withSnapshots(set);
            x.sync(0);
            x.crash();
            bits("DOWN by a crash", x, 0);
            x.mount();
            x.sync(1);
            bits("DOWN by a torn sync", x, 0);
            x.damage(0);
            bits("DOWN without a checkpoint", x, 0);
        }
    }

    private static CowContainer withSnapshots(int set) {
        CowContainer x = new CowContainer(4);
        for (int i = 0; i < 4; i++) {
            if ((set >> i & 1) != 0) {
                x.snapshot(i / 2, i % 2 + 1);
            }
        }
        return x;
    }

    private static void bits(String when, CowContainer x, int set) {
        for (int i = 0; i < 4; i++) {
            Due.same(when + ": info(" + (4 + i) + ")", x.info(4 + i), set >> i & 1);
        }
    }

    private static void otherWhat() {
        int[] others = {-1, -4, 8, 9, 12, 15, 16, 100, 256, 65536 + 3, 1 << 30, Integer.MIN_VALUE, Integer.MAX_VALUE};
        for (int what : others) {
            Due.refused("info(" + what + ")", c -> c.info(what));
            Due.refusedWhenDown("info(" + what + ")", c -> c.info(what));
        }
        for (int what = 0; what < 8; what++) {
            int asked = what;
            int want = Due.filled(24).info(what);
            Due.unchanged("info(" + what + ")", Due.filled(24), c -> c.info(asked), want);
        }
    }

    private static void blocks() {
        for (int blocks = 2; blocks <= 26; blocks++) {
            CowContainer x = new CowContainer(blocks);
            int want = Math.max(4, Math.min(24, blocks));
            Due.same("a new one's BLOCKS", x.info(3), want);
            x.write(0, 0, 0, 1);
            x.sync(0);
            Due.same("BLOCKS with one in use", x.info(3), want);
            x.crash();
            Due.same("BLOCKS when DOWN", x.info(3), want);
            x.mount();
            Due.same("BLOCKS mounted", x.info(3), want);
        }
    }
}
