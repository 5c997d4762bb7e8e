/** Promise 15: damage. */
public final class Promise15DamageTest {
    public static void main(String[] args) {
        Due.sentence("Any spot.");
        for (int spot : Call.anyInt()) {
            fallsBack(spot);
        }
        Due.sentence("REFUSED when UP");
        for (int spot : Call.anyInt()) {
            refusedWhenUp(spot);
        }
        Due.sentence("MISSING if there is no checkpoint.");
        missing();
        Due.sentence("Else the newest checkpoint is gone, the previous one, if there is one, is the newest.");
        wholeState();
        numbersAfterDamage();
        Due.sentence("Answers how many checkpoints are left.");
        afterTornSync();
        Due.end();
    }

    private static void fallsBack(int spot) {
        CowContainer x = new CowContainer(8);
        x.write(0, 0, 0, 1);
        x.snapshot(0, 1);
        x.sync(0);
        x.write(0, 0, 0, 2);
        x.drop(0, 1);
        x.snapshot(1, 2);
        x.sync(0);
        x.crash();
        Due.same("damage(" + spot + ") with two", x.damage(spot), 1);
        Due.same("still DOWN", x.info(0), 0);
        Due.same("one is left", x.info(1), 1);
        Due.same("the previous one is the newest", x.info(2), 1);
        Due.same("mount", x.mount(), 1);
        Due.same("its state", x.read(0, 0, 0, 0), 1);
        Due.same("its snapshot", x.read(0, 1, 0, 0), 1);
        Due.same("not the damaged one's snapshot", x.info(7), 0);
        Due.same("not the damaged one's block", x.used(), 1);
        x.crash();
        Due.same("damage(" + spot + ") with one", x.damage(spot), 0);
        Due.same("none is left", x.info(1), 0);
        Due.same("no newest", x.info(2), 0);
        Due.unchanged("damage(" + spot + ") with none", x, c -> c.damage(spot), CowContainer.MISSING);
        Due.same("mount without a checkpoint", x.mount(), 0);
        Due.holds("the empty state", Due.look(x).equals(Due.look(new CowContainer(8))));
    }

    private static void refusedWhenUp(int spot) {
        Due.refused("damage(" + spot + ") when UP without a checkpoint", c -> c.damage(spot));
        CowContainer x = Due.filled(24);
        x.sync(0);
        Due.unchanged("damage(" + spot + ") when UP", x, c -> c.damage(spot), CowContainer.REFUSED);
        x.sync(0);
        Due.unchanged("damage(" + spot + ") when UP with two", x, c -> c.damage(spot), CowContainer.REFUSED);
        x.crash();
        Due.same("the checkpoints are still there", x.mount(), 2);
    }

    private static void numbersAfterDamage() {
        CowContainer x = new CowContainer(8);
        x.sync(0);
        x.sync(0);
        x.sync(0);
        x.crash();
        x.damage(0);
        Due.same("mount of 2", x.mount(), 2);
        Due.same("3 is given again", x.sync(0), 3);
        Due.same("two are there", x.info(1), 2);
        x.crash();
        Due.same("the first damage", x.damage(0), 1);
        Due.same("the second damage", x.damage(0), 0);
        Due.same("the third damage", x.damage(0), CowContainer.MISSING);
        Due.same("mount without a checkpoint", x.mount(), 0);
        Due.same("1 is given again", x.sync(0), 1);
        Due.same("and it is the only one", x.info(1), 1);
    }

    private static void missing() {
        CowContainer x = new CowContainer(4);
        Due.same("REFUSED goes before MISSING", x.damage(0), CowContainer.REFUSED);
        x.crash();
        Due.same("never synced", x.damage(0), CowContainer.MISSING);
        Due.same("and once more", x.damage(1), CowContainer.MISSING);
        Due.same("still DOWN", x.info(0), 0);
        x.mount();
        x.sync(1);
        Due.same("a torn sync made none", x.damage(0), CowContainer.MISSING);
        Due.same("mount", x.mount(), 0);
        Due.same("the next number", x.sync(0), 1);
    }

    private static void wholeState() {
        CowContainer x = Twins.synced(1);
        x.sync(0);
        String synced = Due.trees(x);
        x.write(1, 2, 0, 60);
        x.drop(1, 2);
        x.sync(0);
        x.crash();
        Due.same("damage", x.damage(0), 1);
        Due.same("the previous one's number", x.info(2), 2);
        Due.same("mount", x.mount(), 2);
        Due.alike("damage", synced, Due.trees(x));
        Due.same("the damaged one's blocks are gone", x.used(), 9);
    }

    private static void afterTornSync() {
        CowContainer x = Twins.synced(2);
        x.sync(1);
        Due.same("the torn sync left one", x.damage(0), 0);
        Due.same("none is left", x.info(1), 0);
        CowContainer y = Twins.synced(2);
        y.crash();
        Due.same("the crash left two", y.damage(0), 1);
        Due.same("and of one none is left", y.damage(0), 0);
    }
}
