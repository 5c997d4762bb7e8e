import java.util.Map;
import java.util.function.Supplier;

/** The sentences of "Terms", and that on an object's 512 calls, each with its test. */
public final class TermsTest {
    private static final int REFUSED = CowContainer.REFUSED;
    private static final int FULL = CowContainer.FULL;
    private static final long HOLE = CowContainer.HOLE;
    private static final long NONE = CowContainer.NONE;

    public static void main(String[] args) {
        Due.sentence("An object is used for at most 512 calls after it has been made");
        theLastCalls();
        Due.sentence("A TREE is four files 0..3; a FILE is four places 0..3");
        cornersAndBeyond();
        Due.sentence("each a hole or a BLOCK. A block has an int value.");
        endsOfInt();
        Due.sentence("Different places may hold the SAME block");
        everywhere();
        Due.sentence("two blocks are different even if their values are equal");
        equalValues();
        Due.sentence("for each volume 0 and 1: the live tree (tree 0) and, for each name 1 and 2, a snapshot (tree 1"
            + " and 2) or none.");
        sixTreesApart();
        Due.sentence("The EMPTY state: all places of the live trees are holes, no snapshots.");
        emptyStates();
        Due.sentence("Besides there are at most two CHECKPOINTS");
        atMostTwo();
        Due.sentence("each a number and a state: the NEWEST and the PREVIOUS one");
        numberAndState();
        Due.sentence("A block is IN USE if some place holds it in the state or in the state of one of the"
            + " (one or two) checkpoints.");
        eachHolderAlone();
        Due.sentence("At most BLOCKS blocks may be in use");
        atMostBlocks();
        Due.sentence("a block that isn't is gone");
        goneAndRoomAgain();
        Due.sentence("The container is UP or DOWN.");
        upOrDown();
        Due.sentence("DOWN there is no state, only checkpoints.");
        noStateWhenDown();
        Due.sentence("Every call first: a volume, file, place, tree or length out of its range answers REFUSED.");
        outOfRange();
        outOfRangeGoesFirst();
        Due.sentence("Then: the container is DOWN (for damage and mount: UP): REFUSED.");
        refusedWhenDown();
        refusedWhenUp();
        Due.sentence("A call that answers REFUSED, MISSING, EXISTS or FULL changes nothing.");
        missingExistsAndFull();
        Due.end();
    }

    private static void theLastCalls() {
        CowContainer x = new CowContainer(4);
        for (int number = 1; number <= 512; number++) {
            Due.same("sync(0) as call " + number, x.sync(0), number);
        }
        CowContainer y = new CowContainer(4);
        for (int i = 0; i < 511; i++) {
            Due.same("write as call " + (i + 1), y.write(i % 2, 0, 0, i), i == 0 ? 1 : 2);
        }
        Due.same("read as call 512", y.read(0, 0, 0, 0), 510);
        CowContainer z = new CowContainer(4);
        for (int i = 0; i < 256; i++) {
            Due.same("crash() as call " + (2 * i + 1), z.crash(), 0);
            Due.same("mount() as call " + (2 * i + 2), z.mount(), 0);
        }
    }

    private static void cornersAndBeyond() {
        for (int volume = 0; volume < 2; volume++) {
            CowContainer x = new CowContainer(4);
            Due.same("write to file 0, place 0", x.write(volume, 0, 0, 1), 1);
            Due.same("write to file 0, place 3", x.write(volume, 0, 3, 2), 2);
            Due.same("write to file 3, place 0", x.write(volume, 3, 0, 3), 3);
            Due.same("write to file 3, place 3", x.write(volume, 3, 3, 4), 4);
            Due.file("file 0", x, volume, 0, 1, HOLE, HOLE, 2);
            Due.file("file 3", x, volume, 3, 3, HOLE, HOLE, 4);
            Due.same("file 4 isn't there", x.read(volume, 0, 4, 0), NONE);
            Due.same("place 4 isn't there", x.read(volume, 0, 0, 4), NONE);
            Due.same("place 4 of file 3 isn't there", x.read(volume, 0, 3, 4), NONE);
            Due.same("place -1 of file 3 isn't there", x.read(volume, 0, 3, -1), NONE);
        }
    }

    /** No value is taken for a hole, for nothing, or for a refusal. */
    private static void endsOfInt() {
        int[] values = {Integer.MIN_VALUE, -4, -3, -2, -1, 0, 1, Integer.MAX_VALUE};
        for (int value : values) {
            CowContainer x = new CowContainer(4);
            Due.same("write of " + value, x.write(1, 2, 1, value), 1);
            Due.file("the value", x, 1, 2, HOLE, value, HOLE, HOLE);
            Due.same("used()", x.used(), 1);
            Due.same("copy of it", x.copy(1, 2, 0), 1);
            Due.same("snapshot of it", x.snapshot(1, 1), 2);
            Due.same("cut of it", x.cut(1, 2, 0), 1);
            Due.same("the snapshot's value", x.read(1, 1, 2, 1), value);
        }
    }

    private static void everywhere() {
        CowContainer x = new CowContainer(4);
        x.write(0, 0, 2, 9);
        for (int file = 1; file < 4; file++) {
            x.copy(0, 0, file);
        }
        for (int file = 0; file < 4; file++) {
            x.move(0, file);
        }
        for (int tree = 1; tree < 3; tree++) {
            Due.same("snapshot(1, " + tree + ")", x.snapshot(1, tree), 4);
        }
        x.move(1, 0);
        x.copy(0, 0, 3);
        x.snapshot(0, 1);
        x.snapshot(0, 2);
        x.sync(0);
        x.sync(0);
        Due.same("one block in all of them", x.used(), 1);
        Due.same("a write to one of them", x.write(1, 1, 2, 8), 2);
        for (int tree = 0; tree < 3; tree++) {
            Due.same("volume 0, tree " + tree, x.read(0, tree, 3, 2), 9);
            Due.same("volume 1, tree " + tree, x.read(1, tree, 3, 2), 9);
        }
        Due.same("the one that was written", x.read(1, 0, 1, 2), 8);
        Due.same("its snapshot", x.read(1, 2, 1, 2), 9);
    }

    private static void equalValues() {
        CowContainer x = new CowContainer(4);
        for (int i = 0; i < 4; i++) {
            Due.same("write of 5", x.write(0, i, 0, 5), i + 1);
        }
        Due.same("one more 5", x.write(0, 0, 1, 5), FULL);
        Due.same("four blocks", x.shared(0, 0, 0), 4);
        x.cut(0, 3, 0);
        x.snapshot(0, 1);
        Due.same("a 5 over a 5 that the snapshot holds", x.write(0, 0, 0, 5), 4);
        Due.same("it is another block", x.shared(0, 0, 1), 2);
    }

    private static void sixTreesApart() {
        CowContainer x = new CowContainer(24);
        for (int volume = 0; volume < 2; volume++) {
            for (int tree = 2; tree > 0; tree--) {
                x.write(volume, 3, 3, volume * 3 + tree);
                x.snapshot(volume, tree);
            }
            x.write(volume, 3, 3, volume * 3);
        }
        for (int i = 0; i < 6; i++) {
            Due.same("tree " + i % 3 + " of volume " + i / 3, x.read(i / 3, i % 3, 3, 3), i);
        }
        Due.same("no tree 3", x.read(0, 3, 3, 3), NONE);
        Due.same("no tree -1", x.read(1, -1, 3, 3), NONE);
        Due.same("no volume 2", x.read(2, 0, 3, 3), NONE);
        Due.same("no volume -1", x.read(-1, 0, 3, 3), NONE);
    }

    private static void emptyStates() {
        isEmpty("a new one", new CowContainer(4));
        CowContainer x = Twins.synced(0);
        x.crash();
        x.mount();
        isEmpty("mounted without a checkpoint", x);
        CowContainer y = Twins.synced(2);
        y.crash();
        y.damage(0);
        y.damage(0);
        y.mount();
        isEmpty("mounted after both are damaged", y);
    }

    private static void isEmpty(String when, CowContainer x) {
        for (int i = 0; i < 32; i++) {
            Due.same(when + ": live place " + i, x.read(i / 16, 0, i / 4 % 4, i % 4), HOLE);
            Due.same(when + ": snapshot 1", x.read(i / 16, 1, i / 4 % 4, i % 4), NONE);
            Due.same(when + ": snapshot 2", x.read(i / 16, 2, i / 4 % 4, i % 4), NONE);
        }
        for (int what = 4; what < 8; what++) {
            Due.same(when + ": info(" + what + ")", x.info(what), 0);
        }
        Due.same(when + ": used()", x.used(), 0);
    }

    private static void atMostTwo() {
        CowContainer x = new CowContainer(4);
        Due.same("none", x.info(1), 0);
        for (int i = 1; i < 7; i++) {
            x.sync(0);
            Due.same("after sync no " + i, x.info(1), i == 1 ? 1 : 2);
        }
        x.crash();
        Due.same("damage of the newest", x.damage(0), 1);
        Due.same("damage of the previous one", x.damage(0), 0);
        Due.same("there is no third", x.damage(0), CowContainer.MISSING);
    }

    /** A number goes with its own state, also where a number has been used before. */
    private static void numberAndState() {
        CowContainer x = new CowContainer(8);
        syncValue(x, 10, 1);
        syncValue(x, 20, 2);
        syncValue(x, 30, 3);
        x.crash();
        mountValue("the newest", x, 3, 30);
        x.crash();
        x.damage(0);
        mountValue("the previous one", x, 2, 20);
        syncValue(x, 31, 3);
        x.crash();
        mountValue("another with the number 3", x, 3, 31);
        x.crash();
        x.damage(0);
        mountValue("the one before it", x, 2, 20);
    }

    private static void syncValue(CowContainer x, int value, int number) {
        x.write(1, 1, 1, value);
        Due.same("sync(0) of " + value, x.sync(0), number);
        Due.same("info(2) after it", x.info(2), number);
    }

    private static void mountValue(String which, CowContainer x, int number, int value) {
        Due.same("mount() of " + which, x.mount(), number);
        Due.same("the number of " + which, x.info(2), number);
        Due.same("the state of " + which, x.read(1, 0, 1, 1), value);
    }

    /** Each of the six trees, in the state, in the newest and in the previous checkpoint. */
    private static void eachHolderAlone() {
        for (int i = 0; i < 18; i++) {
            int volume = i / 3 % 2;
            int tree = i % 3;
            CowContainer x = new CowContainer(4);
            for (int place = 0; place < 4; place++) {
                x.write(volume, 2, place, place);
            }
            keepOnlyIn(x, volume, tree);
            for (int syncs = 0; syncs < i / 6; syncs++) {
                x.sync(0);
                x.cut(volume, 2, 0);
                x.drop(volume, tree);
            }
            String holder = "tree " + tree + " of volume " + volume + " of state " + i / 6;
            Due.same("used() with " + holder, x.used(), 4);
            Due.same("write with " + holder, x.write(1 - volume, 0, 0, 1), FULL);
            x.cut(volume, 2, 0);
            x.drop(volume, tree);
            x.sync(0);
            x.sync(0);
            Due.same("used() without " + holder, x.used(), 0);
        }
    }

    private static void keepOnlyIn(CowContainer x, int volume, int tree) {
        if (tree != 0) {
            x.snapshot(volume, tree);
            x.cut(volume, 2, 0);
        }
    }

    private static void atMostBlocks() {
        for (int blocks = 4; blocks <= 24; blocks++) {
            CowContainer x = new CowContainer(blocks);
            for (int i = 0; i < blocks; i++) {
                Due.same("write no " + i, x.write(i % 2, i / 2 % 4, i / 8, i), i + 1);
            }
            for (int i = blocks; i < 32; i++) {
                Due.same("write no " + i + " with " + blocks, x.write(i % 2, i / 2 % 4, i / 8, i), FULL);
            }
            Due.same("used()", x.used(), blocks);
        }
    }

    private static void goneAndRoomAgain() {
        CowContainer x = Twins.full(0);
        Due.same("full", x.write(0, 1, 1, 5), FULL);
        Due.same("a dropped snapshot's block is gone", x.drop(0, 1), 3);
        Due.same("and leaves room", x.write(0, 1, 1, 5), 4);
        Due.same("for one block", x.write(0, 1, 2, 6), FULL);
        Due.same("a cut place's block is gone", x.cut(0, 1, 1), 1);
        Due.same("and leaves room too", x.write(0, 1, 2, 6), 4);
        Due.same("a file that is copied over is gone", x.copy(0, 2, 1), 0);
        Due.same("and leaves room as well", x.write(0, 3, 2, 7), 4);
        x.crash();
        x.mount();
        Due.same("the lost state's blocks are gone", x.used(), 0);
        Due.same("and leave all room", x.write(0, 0, 0, 8), 1);
    }

    /** One of crash and mount is always refused, and the other never. */
    private static void upOrDown() {
        for (Map.Entry<String, Supplier<CowContainer>> one : Twins.whenUp().entrySet()) {
            CowContainer x = one.getValue().get();
            Due.same("info(0) when " + one.getKey(), x.info(0), 1);
            Due.same("mount() when " + one.getKey(), x.mount(), REFUSED);
            Due.same("crash() when " + one.getKey(), x.crash(), 0);
            Due.same("info(0) then", x.info(0), 0);
        }
        for (Map.Entry<String, Supplier<CowContainer>> one : Twins.whenDown().entrySet()) {
            CowContainer x = one.getValue().get();
            Due.same("info(0) when " + one.getKey(), x.info(0), 0);
            Due.same("crash() when " + one.getKey(), x.crash(), REFUSED);
            Due.same("mount() when " + one.getKey(), x.mount(), x.info(2));
            Due.same("info(0) then", x.info(0), 1);
        }
    }

    private static void noStateWhenDown() {
        for (Map.Entry<String, Supplier<CowContainer>> one : Twins.whenDown().entrySet()) {
            CowContainer x = one.getValue().get();
            for (int i = 0; i < 96; i++) {
                Due.same("read when " + one.getKey(), x.read(i / 48, i / 16 % 3, i / 4 % 4, i % 4), NONE);
            }
            for (int what = 4; what < 8; what++) {
                Due.same("info(" + what + ") when " + one.getKey(), x.info(what), 0);
            }
            Due.same("used() when " + one.getKey(), x.used(), REFUSED);
        }
    }

    private static void outOfRange() {
        for (Map.Entry<String, Supplier<CowContainer>> one : Twins.conditions().entrySet()) {
            for (Call call : Call.outOfRange()) {
                Twins.changesNothing(one.getKey(), one.getValue(), call, call.refusal());
            }
        }
    }

    /** What would be FULL, EXISTS or MISSING, or 0 for one file, is REFUSED if another argument is wrong. */
    private static void outOfRangeGoesFirst() {
        CowContainer x = Twins.full(2);
        Due.same("FULL", x.write(0, 1, 1, 5), FULL);
        Due.same("not FULL", x.write(0, 1, 4, 5), REFUSED);
        Due.same("EXISTS", x.snapshot(0, 1), CowContainer.EXISTS);
        Due.same("not EXISTS", x.snapshot(2, 1), REFUSED);
        Due.same("MISSING", x.drop(0, 2), CowContainer.MISSING);
        Due.same("drop: not MISSING", x.drop(-1, 2), REFUSED);
        Due.same("drop of the live tree: not MISSING", x.drop(0, 0), REFUSED);
        Due.same("revert: not MISSING", x.revert(2, 2), REFUSED);
        Due.same("revert to the live tree: not MISSING", x.revert(0, 0), REFUSED);
        Due.same("shared: not MISSING", x.shared(0, 2, 3), REFUSED);
        Due.same("shared: not MISSING", x.shared(0, -1, 2), REFUSED);
        Due.same("swap: not 0", x.swap(0, 4, 4), REFUSED);
        Due.same("swap: not 0", x.swap(2, 1, 1), REFUSED);
        Due.same("cut at 4: not 0", x.cut(0, 4, 4), REFUSED);
    }

    private static void refusedWhenDown() {
        for (Map.Entry<String, Supplier<CowContainer>> one : Twins.whenDown().entrySet()) {
            for (Call call : Call.onlyWhenUp()) {
                Twins.changesNothing(one.getKey(), one.getValue(), call, call.refusal());
            }
        }
    }

    private static void refusedWhenUp() {
        for (Map.Entry<String, Supplier<CowContainer>> one : Twins.whenUp().entrySet()) {
            for (Call call : Call.onlyWhenDown()) {
                Twins.changesNothing(one.getKey(), one.getValue(), call, REFUSED);
            }
        }
    }

    private static void missingExistsAndFull() {
        for (int checkpoints = 0; checkpoints < 3; checkpoints++) {
            int count = checkpoints;
            String when = "full with " + count + " checkpoints";
            Supplier<CowContainer> past = () -> Twins.full(count);
            for (int i = 0; i < 32; i++) {
                boolean room = count == 0 && (i == 0 || i == 31);
                Call call = Call.of("write", i / 16, i / 4 % 4, i % 4);
                if (!room) {
                    Twins.changesNothing(when, past, call, FULL);
                }
            }
            Twins.changesNothing(when, past, Call.of("snapshot", 0, 1), CowContainer.EXISTS);
            Twins.changesNothing(when, past, Call.of("snapshot", 1, 2), CowContainer.EXISTS);
            for (String name : new String[] {"drop", "revert"}) {
                Twins.changesNothing(when, past, Call.of(name, 0, 2), CowContainer.MISSING);
                Twins.changesNothing(when, past, Call.of(name, 1, 1), CowContainer.MISSING);
            }
            Twins.changesNothing(when, past, Call.of("shared", 0, 0, 2), CowContainer.MISSING);
            Twins.changesNothing(when, past, Call.of("shared", 1, 1, 2), CowContainer.MISSING);
        }
        Twins.changesNothing("DOWN without a checkpoint", () -> Twins.crashed(Twins.synced(0)),
            Call.of("damage", 0), CowContainer.MISSING);
    }
}
