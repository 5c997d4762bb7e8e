import java.util.Arrays;
import java.util.Collections;
import java.util.IdentityHashMap;
import java.util.Set;
import java.util.TreeMap;
import java.util.TreeSet;

/**
 * All promises at once: long mixed runs beside a model that follows the document's words, with a
 * block as an object of its own. The numbers come from a fixed sequence, so each run is the same.
 */
public final class ModelTest {
    private static final int RUNS = 4000;
    private static final int CALLS = 512;
    private static final int[] EDGES = {-1, 5, 99, Integer.MIN_VALUE, Integer.MAX_VALUE};
    private static final int[] LIMITS = {Integer.MIN_VALUE, 0, 3, 4, 5, 6, 8, 12, 16, 23, 24, 25, Integer.MAX_VALUE};

    private static long seed = 20261115L;
    private static final TreeMap<String, Integer> seen = new TreeMap<>();

    public static void main(String[] args) {
        for (int run = 0; run < RUNS && Due.wrongSoFar() < 10; run++) {
            oneRun(run);
        }
        if (Due.wrongSoFar() == 0) {
            everyKindOfAnswerSeen();
        }
        Due.end();
    }

    private static void oneRun(int run) {
        int limit = LIMITS[run % LIMITS.length];
        CowContainer x = new CowContainer(limit);
        Model m = new Model(limit);
        int mishap = 1 + next(12);
        int wrongBefore = Due.wrongSoFar();
        // After a first wrong answer the two have parted, and the rest of the run would tell nothing.
        for (int i = 0; i < CALLS && Due.wrongSoFar() == wrongBefore; i++) {
            oneCall("run " + run + " call " + i + ": ", x, m, mishap);
        }
    }

    /** One call in about forty has an argument out of range; the mishaps have a weight of their own. */
    private static void oneCall(String where, CowContainer x, Model m, int mishap) {
        int v = arg(2);
        int f = arg(4);
        int g = arg(4);
        int t = arg(3);
        int s = arg(3);
        int value = next(3) - 1;
        int what = arg(8);
        int kind = next(100 + mishap);
        if (!m.up && next(3) == 0) {
            kind = next(2) == 0 ? 97 : 98;
        }
        if (kind < 30) {
            check(where, "write", x.write(v, f, g, value), m.write(v, f, g, value));
        } else if (kind < 36) {
            int length = arg(5);
            check(where, "cut", x.cut(v, f, length), m.cut(v, f, length));
        } else if (kind < 42) {
            check(where, "copy", x.copy(v, f, g), m.copy(v, f, g));
        } else if (kind < 46) {
            check(where, "swap", x.swap(v, f, g), m.swap(v, f, g));
        } else if (kind < 51) {
            check(where, "move", x.move(v, f), m.move(v, f));
        } else if (kind < 56) {
            check(where, "snapshot", x.snapshot(v, t), m.snapshot(v, t));
        } else if (kind < 61) {
            check(where, "drop", x.drop(v, t), m.drop(v, t));
        } else if (kind < 65) {
            check(where, "revert", x.revert(v, t), m.revert(v, t));
        } else if (kind < 75) {
            check(where, "read", x.read(v, t, f, g), m.read(v, t, f, g));
        } else if (kind < 82) {
            check(where, "shared", x.shared(v, t, s), m.shared(v, t, s));
        } else if (kind < 85) {
            check(where, "used", x.used(), m.used());
        } else if (kind < 91) {
            check(where, "info", x.info(what), m.info(what));
        } else if (kind < 97) {
            check(where, "sync", x.sync(0), m.sync(0));
        } else if (kind == 97) {
            check(where, "mount", x.mount(), m.mount());
        } else if (kind < 100) {
            check(where, "damage", x.damage(value), m.damage());
        } else if (kind % 2 == 0) {
            check(where, "crash", x.crash(), m.crash());
        } else {
            int tear = next(2) == 0 ? 1 : EDGES[next(EDGES.length)];
            check(where, "sync", x.sync(tear), m.sync(tear));
        }
    }

    private static void check(String where, String call, long got, long want) {
        Due.same(where + call, got, want);
        String kind = want == -1 ? "REFUSED" : want == -2 ? "MISSING" : want == -3 ? "EXISTS"
            : want == -4 ? "FULL" : want == CowContainer.HOLE ? "HOLE" : want == CowContainer.NONE ? "NONE" : "number";
        seen.merge(call + " " + (call.equals("read") && want < 0 ? "number" : kind), 1, Integer::sum);
    }

    /** A run that never meets an answer would test nothing of it. */
    private static void everyKindOfAnswerSeen() {
        String[] kinds = {
            "copy REFUSED", "copy number", "crash REFUSED", "crash number", "cut REFUSED", "cut number",
            "damage MISSING", "damage REFUSED", "damage number", "drop MISSING", "drop REFUSED",
            "drop number", "info REFUSED", "info number", "mount REFUSED", "mount number",
            "move REFUSED", "move number", "read HOLE", "read NONE", "read number", "revert MISSING",
            "revert REFUSED", "revert number", "shared MISSING", "shared REFUSED", "shared number",
            "snapshot EXISTS", "snapshot REFUSED", "snapshot number", "swap REFUSED", "swap number",
            "sync REFUSED", "sync number", "used REFUSED", "used number", "write FULL", "write REFUSED",
            "write number",
        };
        Due.holds("the answers seen are " + seen, seen.keySet().equals(new TreeSet<>(Arrays.asList(kinds))));
        for (String kind : kinds) {
            Due.holds(kind + " is seen a hundred times", seen.getOrDefault(kind, 0) >= 100);
        }
    }

    private static int arg(int bound) {
        return next(150) == 0 ? EDGES[next(EDGES.length)] : next(bound);
    }

    private static int next(int bound) {
        seed = seed * 6364136223846793005L + 1442695040888963407L;
        return (int) ((seed >>> 33) % bound);
    }

    /** Its identity is what makes it a block; the value is only what it carries. */
    private static final class Block {
        final int value;

        Block(int value) {
            this.value = value;
        }
    }

    private static final class State {
        /** By volume and tree; null where there is no such tree. */
        final Block[][][][] trees = new Block[2][3][][];

        State() {
            trees[0][0] = new Block[4][4];
            trees[1][0] = new Block[4][4];
        }

        State same() {
            State answer = new State();
            for (int v = 0; v < 2; v++) {
                for (int t = 0; t < 3; t++) {
                    answer.trees[v][t] = sameTree(trees[v][t]);
                }
            }
            return answer;
        }

        void addBlocks(Set<Block> blocks) {
            for (Block[][][] volume : trees) {
                for (Block[][] tree : volume) {
                    blocks.addAll(blocksOf(tree));
                }
            }
        }
    }

    private static Block[][] sameTree(Block[][] tree) {
        if (tree == null) {
            return null;
        }
        Block[][] answer = new Block[4][];
        for (int f = 0; f < 4; f++) {
            answer[f] = tree[f].clone();
        }
        return answer;
    }

    private static Set<Block> blocksOf(Block[][] tree) {
        Set<Block> answer = Collections.newSetFromMap(new IdentityHashMap<>());
        if (tree != null) {
            for (Block[] file : tree) {
                answer.addAll(Arrays.asList(file));
            }
        }
        answer.remove(null);
        return answer;
    }

    private static int held(Block[] file) {
        int answer = 0;
        for (Block block : file) {
            answer += block == null ? 0 : 1;
        }
        return answer;
    }

    private static boolean in(int value, int from, int to) {
        return value >= from && value <= to;
    }

    private static final class Model {
        final int limit;
        boolean up = true;
        State state = new State();
        State newest = null;
        State previous = null;
        int newestNumber = 0;
        int previousNumber = 0;
        int nextNumber = 1;

        Model(int blocks) {
            limit = Math.max(4, Math.min(24, blocks));
        }

        int inUse() {
            Set<Block> blocks = Collections.newSetFromMap(new IdentityHashMap<>());
            for (State one : new State[] {state, newest, previous}) {
                if (one != null) {
                    one.addBlocks(blocks);
                }
            }
            return blocks.size();
        }

        boolean bad(int v, int f, int g) {
            return !in(v, 0, 1) || !in(f, 0, 3) || !in(g, 0, 3) || !up;
        }

        boolean badName(int v, int t) {
            return !in(v, 0, 1) || !in(t, 1, 2) || !up;
        }

        int write(int v, int f, int p, int value) {
            if (bad(v, f, p)) {
                return -1;
            }
            Block[] file = state.trees[v][0][f];
            Block before = file[p];
            file[p] = new Block(value);
            int count = inUse();
            if (count > limit) {
                file[p] = before;
                return -4;
            }
            return count;
        }

        int cut(int v, int f, int length) {
            if (bad(v, f, 0) || !in(length, 0, 4)) {
                return -1;
            }
            Block[] file = state.trees[v][0][f];
            int before = held(file);
            Arrays.fill(file, length, 4, null);
            return before - held(file);
        }

        int copy(int v, int from, int to) {
            if (bad(v, from, to)) {
                return -1;
            }
            state.trees[v][0][to] = state.trees[v][0][from].clone();
            return held(state.trees[v][0][to]);
        }

        int swap(int v, int a, int b) {
            if (bad(v, a, b)) {
                return -1;
            }
            Block[] file = state.trees[v][0][a];
            state.trees[v][0][a] = state.trees[v][0][b];
            state.trees[v][0][b] = file;
            return a == b ? 0 : 1;
        }

        int move(int v, int f) {
            if (bad(v, f, 0)) {
                return -1;
            }
            state.trees[1 - v][0][f] = state.trees[v][0][f];
            state.trees[v][0][f] = new Block[4];
            return held(state.trees[1 - v][0][f]);
        }

        int snapshot(int v, int t) {
            if (badName(v, t)) {
                return -1;
            }
            if (state.trees[v][t] != null) {
                return -3;
            }
            state.trees[v][t] = sameTree(state.trees[v][0]);
            int answer = 0;
            for (Block[] file : state.trees[v][t]) {
                answer += held(file);
            }
            return answer;
        }

        int drop(int v, int t) {
            if (badName(v, t)) {
                return -1;
            }
            if (state.trees[v][t] == null) {
                return -2;
            }
            state.trees[v][t] = null;
            return inUse();
        }

        int revert(int v, int t) {
            if (badName(v, t)) {
                return -1;
            }
            if (state.trees[v][t] == null) {
                return -2;
            }
            state.trees[v][0] = sameTree(state.trees[v][t]);
            return inUse();
        }

        long read(int v, int t, int f, int p) {
            if (bad(v, f, p) || !in(t, 0, 2) || state.trees[v][t] == null) {
                return 4294967297L;
            }
            Block block = state.trees[v][t][f][p];
            return block == null ? 4294967296L : block.value;
        }

        int shared(int v, int a, int b) {
            if (bad(v, 0, 0) || !in(a, 0, 2) || !in(b, 0, 2)) {
                return -1;
            }
            if (state.trees[v][a] == null || state.trees[v][b] == null) {
                return -2;
            }
            Set<Block> both = blocksOf(state.trees[v][a]);
            both.retainAll(blocksOf(state.trees[v][b]));
            return both.size();
        }

        int used() {
            return up ? inUse() : -1;
        }

        int sync(int tear) {
            if (!up) {
                return -1;
            }
            if (tear != 0) {
                previous = null;
                return crash();
            }
            previous = newest;
            previousNumber = newestNumber;
            newest = state.same();
            newestNumber = nextNumber++;
            return newestNumber;
        }

        int crash() {
            if (!up) {
                return -1;
            }
            up = false;
            state = null;
            return 0;
        }

        int damage() {
            if (up) {
                return -1;
            }
            if (newest == null) {
                return -2;
            }
            newest = previous;
            newestNumber = previousNumber;
            previous = null;
            return newest == null ? 0 : 1;
        }

        int mount() {
            if (up) {
                return -1;
            }
            up = true;
            state = newest == null ? new State() : newest.same();
            int number = newest == null ? 0 : newestNumber;
            nextNumber = number + 1;
            return number;
        }

        int info(int what) {
            switch (what) {
                case 0: return up ? 1 : 0;
                case 1: return (newest == null ? 0 : 1) + (previous == null ? 0 : 1);
                case 2: return newest == null ? 0 : newestNumber;
                case 3: return limit;
                case 4: return up && state.trees[0][1] != null ? 1 : 0;
                case 5: return up && state.trees[0][2] != null ? 1 : 0;
                case 6: return up && state.trees[1][1] != null ? 1 : 0;
                case 7: return up && state.trees[1][2] != null ? 1 : 0;
                default: return -1;
            }
        }
    }
}
