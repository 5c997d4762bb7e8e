/** The document's first sentence, each of its parts as a short story of calls. */
public final class WhatItIsTest {
    private static final long HOLE = CowContainer.HOLE;
    private static final long NONE = CowContainer.NONE;

    public static void main(String[] args) {
        Due.sentence("A container of two volumes that share blocks");
        twoVolumes();
        Due.sentence("files with holes");
        holes();
        Due.sentence("clones that share their blocks until written");
        clones();
        Due.sentence("snapshots that freeze a volume");
        snapshots();
        Due.sentence("checkpoints that a crash falls back to");
        crashes();
        Due.sentence("a damaged newest checkpoint that makes the container fall back to the one before");
        damages();
        Due.end();
    }

    /** Moved away from its clone, a block is held by both volumes and still counts once. */
    private static void twoVolumes() {
        CowContainer x = new CowContainer(4);
        x.write(0, 0, 1, 5);
        x.copy(0, 0, 2);
        Due.same("move(0, 2)", x.move(0, 2), 1);
        Due.same("volume 0", x.read(0, 0, 0, 1), 5);
        Due.same("volume 1", x.read(1, 0, 2, 1), 5);
        Due.same("both hold one block", x.used(), 1);
        Due.same("volume 0 lets it go", x.cut(0, 0, 0), 1);
        Due.same("volume 1 still holds it", x.used(), 1);
        Due.same("volume 1 lets it go", x.cut(1, 2, 0), 1);
        Due.same("nothing holds it", x.used(), 0);
    }

    private static void holes() {
        CowContainer x = new CowContainer(4);
        Due.file("a new file", x, 0, 1, HOLE, HOLE, HOLE, HOLE);
        Due.same("a write behind holes", x.write(0, 1, 3, 0), 1);
        Due.file("the holes stay before it", x, 0, 1, HOLE, HOLE, HOLE, 0);
        Due.same("a write between them", x.write(0, 1, 1, -1), 2);
        Due.file("holes on both sides", x, 0, 1, HOLE, -1, HOLE, 0);
        Due.same("a clone has the holes too", x.copy(0, 1, 2), 2);
        Due.file("the clone", x, 0, 2, HOLE, -1, HOLE, 0);
    }

    private static void clones() {
        CowContainer x = new CowContainer(6);
        for (int place = 0; place < 4; place++) {
            x.write(1, 0, place, place);
        }
        Due.same("copy(1, 0, 3)", x.copy(1, 0, 3), 4);
        Due.same("the clone needs no block", x.used(), 4);
        Due.same("a write to the clone", x.write(1, 3, 2, 12), 5);
        Due.file("the file", x, 1, 0, 0, 1, 2, 3);
        Due.file("its clone", x, 1, 3, 0, 1, 12, 3);
        Due.same("a write to the file", x.write(1, 0, 0, 10), 6);
        Due.file("the file then", x, 1, 0, 10, 1, 2, 3);
        Due.file("its clone then", x, 1, 3, 0, 1, 12, 3);
        Due.same("a write where nothing is shared any more", x.write(1, 0, 0, 20), 6);
        Due.same("a write where something is", x.write(1, 0, 1, 11), CowContainer.FULL);
    }

    /** Whatever is done to the live tree, and to the other volume, the snapshot stays. */
    private static void snapshots() {
        CowContainer x = new CowContainer(24);
        for (int i = 0; i < 8; i++) {
            x.write(0, i / 4, i % 4, i);
        }
        Due.same("snapshot(0, 2)", x.snapshot(0, 2), 8);
        frozen("at once", x);
        x.write(0, 0, 0, 90);
        x.write(0, 2, 0, 91);
        frozen("after writes", x);
        x.copy(0, 1, 0);
        x.swap(0, 1, 3);
        frozen("after copy and swap", x);
        x.move(0, 3);
        x.cut(0, 0, 1);
        frozen("after move and cut", x);
        x.snapshot(0, 1);
        x.revert(0, 1);
        x.drop(0, 1);
        frozen("after all that is done with snapshot 1", x);
        x.write(1, 0, 0, 92);
        x.snapshot(1, 2);
        x.drop(1, 2);
        frozen("after all that is done in volume 1", x);
    }

    private static void frozen(String when, CowContainer x) {
        Due.tree(when, x, 0, 2, 0, 0, 1, 2, 3);
        Due.tree(when, x, 0, 2, 1, 4, 5, 6, 7);
        Due.tree(when, x, 0, 2, 2, HOLE, HOLE, HOLE, HOLE);
        Due.tree(when, x, 0, 2, 3, HOLE, HOLE, HOLE, HOLE);
    }

    private static void crashes() {
        CowContainer x = new CowContainer(24);
        x.write(0, 0, 0, 1);
        x.snapshot(1, 1);
        Due.same("sync(0)", x.sync(0), 1);
        x.write(0, 0, 0, 2);
        x.write(1, 3, 3, 3);
        x.drop(1, 1);
        x.snapshot(0, 2);
        for (int times = 0; times < 2; times++) {
            Due.same("crash()", x.crash(), 0);
            Due.same("mount()", x.mount(), 1);
            Due.same("the write is lost", x.read(0, 0, 0, 0), 1);
            Due.same("the other volume's write is lost", x.read(1, 0, 3, 3), HOLE);
            Due.same("the drop is lost", x.read(1, 1, 0, 0), HOLE);
            Due.same("the snapshot is lost", x.read(0, 2, 0, 0), NONE);
            Due.same("the blocks are those of the checkpoint", x.used(), 1);
            x.write(0, 0, 0, 4);
        }
    }

    private static void damages() {
        CowContainer x = new CowContainer(24);
        for (int value = 1; value < 4; value++) {
            x.write(0, 0, 0, value);
            Due.same("sync(0)", x.sync(0), value);
        }
        x.write(0, 0, 0, 4);
        x.crash();
        Due.same("the newest is damaged", x.damage(0), 1);
        Due.same("mount()", x.mount(), 2);
        Due.same("the one before", x.read(0, 0, 0, 0), 2);
        x.crash();
        Due.same("that one is damaged too", x.damage(0), 0);
        Due.same("mount() of nothing", x.mount(), 0);
        Due.same("nothing before it", x.read(0, 0, 0, 0), HOLE);
    }
}
