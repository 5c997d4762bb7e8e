import java.util.function.ToIntFunction;

/** What the tests share: due answers, wrong inputs, and the check that a call changed nothing. */
final class Due {
    static final int[] NO_VOLUME = {-1, 2, 3, Integer.MIN_VALUE, Integer.MAX_VALUE};
    static final int[] NO_FILE = {-1, 4, 5, Integer.MIN_VALUE, Integer.MAX_VALUE};
    static final int[] NO_PLACE = NO_FILE;
    static final int[] NO_TREE = {-1, 3, 4, Integer.MIN_VALUE, Integer.MAX_VALUE};
    static final int[] NO_SNAPSHOT_NAME = {-1, 0, 3, 4, Integer.MIN_VALUE, Integer.MAX_VALUE};
    static final int[] NO_LENGTH = {-1, 5, 6, Integer.MIN_VALUE, Integer.MAX_VALUE};

    /** The paragraph that holds for each promise, for the tests of a promise's wrong inputs. */
    static final String EVERY_CALL = "Every call first: a volume, file, place, tree or length out of its range"
        + " answers REFUSED. Then: the container is DOWN (for damage and mount: UP): REFUSED.";

    private static int checked = 0;
    private static int wrong = 0;
    private static String sentence = "";
    private static int checkedBefore = 0;
    private static int sentences = 0;

    private Due() {
    }

    /** What is looked at from here on is a test of this sentence of the document. */
    static void sentence(String quoted) {
        closeSentence();
        sentence = quoted;
        checkedBefore = checked;
        sentences++;
    }

    /** A sentence for which no answer was looked at has no test. */
    private static void closeSentence() {
        if (sentences > 0 && checked == checkedBefore) {
            tell("nothing was looked at");
        }
    }

    private static void tell(String fault) {
        wrong++;
        System.out.println(sentence.isEmpty() ? fault : "\"" + sentence + "\": " + fault);
    }

    static void same(String call, long got, long want) {
        checked++;
        if (got != want) {
            tell(call + " answered " + got + ", due is " + want);
        }
    }

    static int wrongSoFar() {
        return wrong;
    }

    static void holds(String what, boolean got) {
        checked++;
        if (!got) {
            tell(what + " doesn't hold");
        }
    }

    /**
     * The call answers 'want' and leaves all that can be seen of the container as it was. The two
     * looks make some 240 calls, and an object has 512: at most two of these on one object.
     */
    static void unchanged(String call, CowContainer x, ToIntFunction<CowContainer> made, int want) {
        String before = look(x);
        same(call, made.applyAsInt(x), want);
        String after = look(x);
        alike(call, before, after);
    }

    static void alike(String call, String before, String after) {
        checked++;
        if (!before.equals(after)) {
            tell(call + " changed\n  " + before + "\nto\n  " + after);
        }
    }

    /** The call is REFUSED and changes nothing, on a container of its own that is UP. */
    static void refused(String call, ToIntFunction<CowContainer> made) {
        unchanged(call, filled(24), made, CowContainer.REFUSED);
    }

    /** The container goes DOWN, the call is REFUSED then, and the mount finds all as it was. */
    static void refusedWhenDown(String call, ToIntFunction<CowContainer> made) {
        CowContainer x = filled(24);
        same("sync before " + call, x.sync(0), 1);
        String before = look(x);
        same("crash before " + call, x.crash(), 0);
        unchanged(call + " when DOWN", x, made, CowContainer.REFUSED);
        same("mount after " + call, x.mount(), 1);
        holds(call + " when DOWN left the checkpoint alone", before.equals(look(x)));
    }

    /** Seven blocks, a snapshot 1 of volume 0 and a snapshot 2 of volume 1. */
    static CowContainer filled(int blocks) {
        CowContainer x = new CowContainer(blocks);
        x.write(0, 0, 0, 10);
        x.write(0, 0, 3, 13);
        x.write(0, 2, 1, 21);
        x.snapshot(0, 1);
        x.write(0, 0, 0, 100);
        x.write(1, 1, 2, -12);
        x.write(1, 3, 0, 30);
        x.snapshot(1, 2);
        x.write(1, 2, 2, 22);
        return x;
    }

    /** All that can be seen by calls that change nothing. */
    static String look(CowContainer x) {
        StringBuilder seen = new StringBuilder();
        for (int what = 0; what < 8; what++) {
            seen.append(x.info(what)).append(' ');
        }
        return seen.append("used ").append(x.used()).append(trees(x)).toString();
    }

    /** What all trees of the state hold, and how many blocks they share. */
    static String trees(CowContainer x) {
        StringBuilder seen = new StringBuilder();
        for (int volume = 0; volume < 2; volume++) {
            for (int tree = 0; tree < 3; tree++) {
                seen.append(" |");
                for (int i = 0; i < 16; i++) {
                    seen.append(' ').append(word(x.read(volume, tree, i / 4, i % 4)));
                }
                for (int other = tree; other < 3; other++) {
                    seen.append(" &").append(x.shared(volume, tree, other));
                }
            }
        }
        return seen.toString();
    }

    private static String word(long value) {
        return value == CowContainer.HOLE ? "." : value == CowContainer.NONE ? "-" : Long.toString(value);
    }

    /** Each place of a file of the live tree, or a hole where 'want' says HOLE. */
    static void file(String when, CowContainer x, int volume, int file, long... want) {
        tree(when, x, volume, 0, file, want);
    }

    static void tree(String when, CowContainer x, int volume, int tree, int file, long... want) {
        for (int place = 0; place < 4; place++) {
            String call = when + ": read(" + volume + ", " + tree + ", " + file + ", " + place + ")";
            same(call, x.read(volume, tree, file, place), want[place]);
        }
    }

    static void end() {
        closeSentence();
        String of = sentences == 0 ? "" : " for " + sentences + " sentences";
        System.out.println(checked + " answers looked at" + of + ", " + wrong + " not as due");
        if (wrong != 0 || checked == 0) {
            System.exit(1);
        }
    }
}
