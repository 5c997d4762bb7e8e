/** Promise 17: info. */
public final class Promise17InfoTest {
    public static void main(String[] args) {
        up();
        checkpoints();
        snapshots();
        otherWhat();
        Due.end();
    }

    private static void up() {
        CowContainer x = new CowContainer(9);
        Due.same("UP", x.info(0), 1);
        Due.same("BLOCKS", x.info(3), 9);
        x.crash();
        Due.same("DOWN", x.info(0), 0);
        Due.same("BLOCKS when DOWN", x.info(3), 9);
        x.mount();
        Due.same("UP again", x.info(0), 1);
        x.sync(1);
        Due.same("DOWN by a torn sync", x.info(0), 0);
    }

    private static void checkpoints() {
        CowContainer x = new CowContainer(9);
        told(x, 0, 0);
        x.sync(0);
        told(x, 1, 1);
        x.sync(0);
        told(x, 2, 2);
        x.sync(0);
        told(x, 2, 3);
        x.sync(1);
        told(x, 1, 3);
        x.mount();
        x.sync(0);
        told(x, 2, 4);
        x.crash();
        told(x, 2, 4);
        x.damage(0);
        told(x, 1, 3);
        x.damage(0);
        told(x, 0, 0);
    }

    private static void told(CowContainer x, int count, int newest) {
        Due.same("how many checkpoints", x.info(1), count);
        Due.same("the newest's number", x.info(2), newest);
    }

    private static void snapshots() {
        for (int set = 0; set < 16; set++) {
            CowContainer x = new CowContainer(4);
            for (int i = 0; i < 4; i++) {
                if ((set >> i & 1) != 0) {
                    x.snapshot(i / 2, i % 2 + 1);
                }
            }
            bits("UP", x, set);
            x.sync(0);
            x.crash();
            bits("DOWN", x, 0);
            x.mount();
            bits("mounted", x, set);
            for (int i = 0; i < 4; i++) {
                x.drop(i / 2, i % 2 + 1);
            }
            bits("dropped", x, 0);
        }
    }

    private static void bits(String when, CowContainer x, int set) {
        for (int i = 0; i < 4; i++) {
            Due.same(when + ": info(" + (4 + i) + ")", x.info(4 + i), set >> i & 1);
        }
    }

    private static void otherWhat() {
        int[] others = {-1, -4, 8, 9, 100, Integer.MIN_VALUE, Integer.MAX_VALUE};
        for (int what : others) {
            Due.refused("info(" + what + ")", c -> c.info(what));
            Due.refusedWhenDown("info(" + what + ")", c -> c.info(what));
        }
        for (int what = 0; what < 8; what++) {
            int asked = what;
            int want = Due.filled(24).info(what);
            Due.unchanged("info(" + what + ")", Due.filled(24), c -> c.info(asked), want);
        }
    }
}
