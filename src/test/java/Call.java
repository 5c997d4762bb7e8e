import java.util.ArrayList;
import java.util.Arrays;
import java.util.List;
import java.util.function.ToLongFunction;

/** A call with its arguments set, and the text by which a fault tells it. */
record Call(String text, ToLongFunction<CowContainer> made) {
    private static final int[] VOLUME = {0, 1};
    private static final int[] FILE = {0, 3};
    private static final int[] PLACE = {0, 3};
    private static final int[] TREE = {0, 2};
    private static final int[] NAME = {1, 2};
    private static final int[] LENGTH = {0, 4};

    /** The name of a call whose arguments have ranges, and those ranges, from least to greatest. */
    private record Ranged(String name, int[]... ranges) {
    }

    private static final Ranged[] RANGED = {
        new Ranged("write", VOLUME, FILE, PLACE),
        new Ranged("cut", VOLUME, FILE, LENGTH),
        new Ranged("copy", VOLUME, FILE, FILE),
        new Ranged("swap", VOLUME, FILE, FILE),
        new Ranged("move", VOLUME, FILE),
        new Ranged("snapshot", VOLUME, NAME),
        new Ranged("drop", VOLUME, NAME),
        new Ranged("revert", VOLUME, NAME),
        new Ranged("read", VOLUME, TREE, FILE, PLACE),
        new Ranged("shared", VOLUME, TREE, TREE),
    };

    long on(CowContainer x) {
        return made.applyAsLong(x);
    }

    /** What a refused call answers: NONE for read, which has no other way to say it. */
    long refusal() {
        return text.startsWith("read") ? CowContainer.NONE : CowContainer.REFUSED;
    }

    static Call of(String name, int... a) {
        return new Call(text(name, a), x -> make(x, name, a));
    }

    private static String text(String name, int[] a) {
        StringBuilder answer = new StringBuilder(name).append('(');
        for (int i = 0; i < a.length; i++) {
            answer.append(i == 0 ? "" : ", ").append(a[i]);
        }
        return answer.append(')').toString();
    }

    private static long make(CowContainer x, String name, int[] a) {
        switch (name) {
            case "write": return x.write(a[0], a[1], a[2], 77);
            case "cut": return x.cut(a[0], a[1], a[2]);
            case "copy": return x.copy(a[0], a[1], a[2]);
            case "swap": return x.swap(a[0], a[1], a[2]);
            case "move": return x.move(a[0], a[1]);
            case "snapshot": return x.snapshot(a[0], a[1]);
            case "drop": return x.drop(a[0], a[1]);
            case "revert": return x.revert(a[0], a[1]);
            case "read": return x.read(a[0], a[1], a[2], a[3]);
            case "shared": return x.shared(a[0], a[1], a[2]);
            case "used": return x.used();
            case "sync": return x.sync(a[0]);
            case "crash": return x.crash();
            case "damage": return x.damage(a[0]);
            case "mount": return x.mount();
            case "info": return x.info(a[0]);
            default: throw new IllegalArgumentException(name);
        }
    }

    /** Every call that has ranges, with each of its arguments, and then all, out of its range. */
    static List<Call> outOfRange() {
        List<Call> answer = new ArrayList<>();
        for (Ranged one : RANGED) {
            for (int i = 0; i < one.ranges.length; i++) {
                for (int wrong : outside(one.ranges[i])) {
                    for (int end = 0; end < 2; end++) {
                        int[] a = ends(one.ranges, end);
                        a[i] = wrong;
                        answer.add(of(one.name, a));
                    }
                }
            }
            answer.add(of(one.name, all(one.ranges.length, -1)));
            answer.add(of(one.name, all(one.ranges.length, 5)));
        }
        return answer;
    }

    /** Every call that is for UP alone, with the ends of its arguments' ranges. */
    static List<Call> onlyWhenUp() {
        List<Call> answer = new ArrayList<>();
        for (Ranged one : RANGED) {
            for (int set = 0; set < 1 << one.ranges.length; set++) {
                int[] a = new int[one.ranges.length];
                for (int i = 0; i < a.length; i++) {
                    a[i] = one.ranges[i][set >> i & 1];
                }
                answer.add(of(one.name, a));
            }
        }
        answer.add(of("used"));
        answer.add(of("crash"));
        for (int tear : anyInt()) {
            answer.add(of("sync", tear));
        }
        return answer;
    }

    /** damage with any spot, and mount. */
    static List<Call> onlyWhenDown() {
        List<Call> answer = new ArrayList<>();
        for (int spot : anyInt()) {
            answer.add(of("damage", spot));
        }
        answer.add(of("mount"));
        return answer;
    }

    static int[] anyInt() {
        return new int[] {0, 1, -1, 2, 3, 24, 255, 256, 65536, Integer.MAX_VALUE, Integer.MIN_VALUE};
    }

    /**
     * The neighbours of the range, the ends of int, and what would be inside again if a factor, a
     * shift or a narrower type dropped the high bits.
     */
    static int[] outside(int[] range) {
        int[] offsets = {32, 256, 65536, 1 << 28, 1 << 29, 1 << 30, Integer.MIN_VALUE};
        List<Integer> answer = new ArrayList<>(List.of(range[0] - 1, range[1] + 1, range[1] + 2,
            Integer.MIN_VALUE + 1, Integer.MAX_VALUE));
        for (int offset : offsets) {
            answer.add(range[0] + offset);
            answer.add(range[1] + offset);
            answer.add(range[1] - offset);
        }
        return answer.stream().mapToInt(Integer::intValue).toArray();
    }

    private static int[] ends(int[][] ranges, int end) {
        int[] answer = new int[ranges.length];
        for (int i = 0; i < answer.length; i++) {
            answer[i] = ranges[i][end];
        }
        return answer;
    }

    private static int[] all(int count, int value) {
        int[] answer = new int[count];
        Arrays.fill(answer, value);
        return answer;
    }
}
