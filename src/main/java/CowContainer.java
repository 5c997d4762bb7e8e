/**
 * Two volumes whose trees share blocks, with checkpoints that a crash falls back to.
 *
 * The state and both checkpoints have the same shape and lie one behind the other in the same
 * arrays. Whatever isn't there (a snapshot, a checkpoint, the state when DOWN) is kept as all holes
 * and no snapshots, so that the blocks in use are simply those that any place at all holds, and
 * falling back to a checkpoint that isn't there gives the empty state.
 */
public final class CowContainer {
    public static final int REFUSED = -1, MISSING = -2, EXISTS = -3, FULL = -4;
    public static final long HOLE = 4294967296L, NONE = 4294967297L;

    private static final int VOLUMES = 2;
    private static final int TREES = 3;
    private static final int FILES = 4;
    private static final int PLACES = 4;
    private static final int LIVE = 0;

    private static final int PLACES_OF_TREE = FILES * PLACES;
    private static final int PLACES_OF_VOLUME = TREES * PLACES_OF_TREE;
    private static final int PLACES_OF_STATE = VOLUMES * PLACES_OF_VOLUME;
    private static final int SNAPSHOTS_OF_VOLUME = TREES - 1;
    private static final int SNAPSHOTS_OF_STATE = VOLUMES * SNAPSHOTS_OF_VOLUME;

    private static final int STATE = 0;
    private static final int NEWEST = 1;
    private static final int PREVIOUS = 2;
    private static final int STATES = 3;
    private static final int ALL_PLACES = STATES * PLACES_OF_STATE;
    private static final int ALL_SNAPSHOTS = STATES * SNAPSHOTS_OF_STATE;

    private static final int LEAST_BLOCKS = 4;
    private static final int MOST_BLOCKS = 24;
    private static final int BLOCK_NUMBERS = MOST_BLOCKS + 1;
    private static final int NO_BLOCK = 0;
    private static final int NO_PLACE = -1;
    private static final int NO_CHECKPOINT = 0;

    /** For each place the block that it holds, 1..blockLimit, or NO_BLOCK for a hole. */
    private final int[] held = new int[ALL_PLACES];
    private final boolean[] snapshotThere = new boolean[ALL_SNAPSHOTS];
    private final int[] valueOfBlock = new int[BLOCK_NUMBERS];
    private final int blockLimit;
    private boolean up;
    private int newestNumber;
    private int previousNumber;
    private int nextNumber;

    public CowContainer(int blocks) {
        blockLimit = blocks < LEAST_BLOCKS ? LEAST_BLOCKS : blocks > MOST_BLOCKS ? MOST_BLOCKS : blocks;
        up = true;
        newestNumber = NO_CHECKPOINT;
        previousNumber = NO_CHECKPOINT;
        nextNumber = 1;
    }

    public int write(int volume, int file, int place, int value) {
        if (!isVolume(volume) || !isFile(file) || !isPlace(place) || !up) {
            return REFUSED;
        }
        int target = fileStart(volume, file) + place;
        // The place lets go of its block first: a block that nothing else holds makes room.
        int kept = blocksInUseWithout(target);
        int block = freeBlock(kept);
        if (block == NO_BLOCK) {
            return FULL;
        }
        held[target] = block;
        valueOfBlock[block] = value;
        return sizeOf(kept | 1 << block);
    }

    public int cut(int volume, int file, int length) {
        if (!isVolume(volume) || !isFile(file) || length < 0 || length > PLACES || !up) {
            return REFUSED;
        }
        int start = fileStart(volume, file);
        int count = PLACES - length;
        int answer = countHeld(start + length, count);
        clearPlaces(start + length, count);
        return answer;
    }

    public int copy(int volume, int from, int to) {
        if (!isVolume(volume) || !isFile(from) || !isFile(to) || !up) {
            return REFUSED;
        }
        int source = fileStart(volume, from);
        int target = fileStart(volume, to);
        copyPlaces(source, target, PLACES);
        return countHeld(target, PLACES);
    }

    public int swap(int volume, int a, int b) {
        if (!isVolume(volume) || !isFile(a) || !isFile(b) || !up) {
            return REFUSED;
        }
        int startA = fileStart(volume, a);
        int startB = fileStart(volume, b);
        for (int place = 0; place < PLACES; place++) {
            int block = held[startA + place];
            held[startA + place] = held[startB + place];
            held[startB + place] = block;
        }
        return a == b ? 0 : 1;
    }

    public int move(int volume, int file) {
        if (!isVolume(volume) || !isFile(file) || !up) {
            return REFUSED;
        }
        int source = fileStart(volume, file);
        int target = fileStart(1 - volume, file);
        copyPlaces(source, target, PLACES);
        clearPlaces(source, PLACES);
        return countHeld(target, PLACES);
    }

    public int snapshot(int volume, int tree) {
        if (!isVolume(volume) || !isSnapshotName(tree) || !up) {
            return REFUSED;
        }
        if (hasTree(volume, tree)) {
            return EXISTS;
        }
        int live = treeStart(volume, LIVE);
        int target = treeStart(volume, tree);
        copyPlaces(live, target, PLACES_OF_TREE);
        markSnapshot(volume, tree, true);
        return countHeld(target, PLACES_OF_TREE);
    }

    public int drop(int volume, int tree) {
        if (!isVolume(volume) || !isSnapshotName(tree) || !up) {
            return REFUSED;
        }
        if (!hasTree(volume, tree)) {
            return MISSING;
        }
        int start = treeStart(volume, tree);
        clearPlaces(start, PLACES_OF_TREE);
        markSnapshot(volume, tree, false);
        return countInUse();
    }

    public int revert(int volume, int tree) {
        if (!isVolume(volume) || !isSnapshotName(tree) || !up) {
            return REFUSED;
        }
        if (!hasTree(volume, tree)) {
            return MISSING;
        }
        int source = treeStart(volume, tree);
        int live = treeStart(volume, LIVE);
        copyPlaces(source, live, PLACES_OF_TREE);
        return countInUse();
    }

    public long read(int volume, int tree, int file, int place) {
        if (!isVolume(volume) || !isTree(tree) || !isFile(file) || !isPlace(place) || !up) {
            return NONE;
        }
        if (!hasTree(volume, tree)) {
            return NONE;
        }
        int block = held[treeStart(volume, tree) + file * PLACES + place];
        return block == NO_BLOCK ? HOLE : valueOfBlock[block];
    }

    public int shared(int volume, int a, int b) {
        if (!isVolume(volume) || !isTree(a) || !isTree(b) || !up) {
            return REFUSED;
        }
        if (!hasTree(volume, a) || !hasTree(volume, b)) {
            return MISSING;
        }
        int blocksOfA = blocksOfTree(volume, a);
        int blocksOfB = blocksOfTree(volume, b);
        return sizeOf(blocksOfA & blocksOfB);
    }

    public int used() {
        return up ? countInUse() : REFUSED;
    }

    public int sync(int tear) {
        if (!up) {
            return REFUSED;
        }
        if (tear != 0) {
            // The previous checkpoint's room is what the torn one was being written to.
            clearState(PREVIOUS);
            previousNumber = NO_CHECKPOINT;
            goDown();
            return 0;
        }
        copyState(NEWEST, PREVIOUS);
        previousNumber = newestNumber;
        copyState(STATE, NEWEST);
        newestNumber = nextNumber;
        nextNumber++;
        return newestNumber;
    }

    public int crash() {
        if (!up) {
            return REFUSED;
        }
        goDown();
        return 0;
    }

    public int damage(int spot) {
        if (up) {
            return REFUSED;
        }
        if (newestNumber == NO_CHECKPOINT) {
            return MISSING;
        }
        copyState(PREVIOUS, NEWEST);
        newestNumber = previousNumber;
        clearState(PREVIOUS);
        previousNumber = NO_CHECKPOINT;
        return countCheckpoints();
    }

    public int mount() {
        if (up) {
            return REFUSED;
        }
        copyState(NEWEST, STATE);
        nextNumber = newestNumber + 1;
        up = true;
        return newestNumber;
    }

    public int info(int what) {
        switch (what) {
            case 0:
                return up ? 1 : 0;
            case 1:
                return countCheckpoints();
            case 2:
                return newestNumber;
            case 3:
                return blockLimit;
            case 4:
            case 5:
            case 6:
            case 7:
                return snapshotThere[STATE * SNAPSHOTS_OF_STATE + what - 4] ? 1 : 0;
            default:
                return REFUSED;
        }
    }

    private static boolean isVolume(int volume) {
        return volume >= 0 && volume < VOLUMES;
    }

    private static boolean isTree(int tree) {
        return tree >= 0 && tree < TREES;
    }

    private static boolean isSnapshotName(int tree) {
        return tree > LIVE && tree < TREES;
    }

    private static boolean isFile(int file) {
        return file >= 0 && file < FILES;
    }

    private static boolean isPlace(int place) {
        return place >= 0 && place < PLACES;
    }

    private static int treeStart(int volume, int tree) {
        return STATE * PLACES_OF_STATE + volume * PLACES_OF_VOLUME + tree * PLACES_OF_TREE;
    }

    /** Of the live tree, the only one whose files are changed one by one. */
    private static int fileStart(int volume, int file) {
        return treeStart(volume, LIVE) + file * PLACES;
    }

    private static int snapshotIndex(int volume, int tree) {
        return STATE * SNAPSHOTS_OF_STATE + volume * SNAPSHOTS_OF_VOLUME + tree - 1;
    }

    private boolean hasTree(int volume, int tree) {
        return tree == LIVE || snapshotThere[snapshotIndex(volume, tree)];
    }

    private void markSnapshot(int volume, int tree, boolean there) {
        snapshotThere[snapshotIndex(volume, tree)] = there;
    }

    private void copyPlaces(int source, int target, int count) {
        for (int i = 0; i < count; i++) {
            held[target + i] = held[source + i];
        }
    }

    private void clearPlaces(int start, int count) {
        for (int i = 0; i < count; i++) {
            held[start + i] = NO_BLOCK;
        }
    }

    private int countHeld(int start, int count) {
        int answer = 0;
        for (int i = 0; i < count; i++) {
            if (held[start + i] != NO_BLOCK) {
                answer++;
            }
        }
        return answer;
    }

    private void copyState(int source, int target) {
        copyPlaces(source * PLACES_OF_STATE, target * PLACES_OF_STATE, PLACES_OF_STATE);
        for (int i = 0; i < SNAPSHOTS_OF_STATE; i++) {
            snapshotThere[target * SNAPSHOTS_OF_STATE + i] = snapshotThere[source * SNAPSHOTS_OF_STATE + i];
        }
    }

    private void clearState(int state) {
        clearPlaces(state * PLACES_OF_STATE, PLACES_OF_STATE);
        for (int i = 0; i < SNAPSHOTS_OF_STATE; i++) {
            snapshotThere[state * SNAPSHOTS_OF_STATE + i] = false;
        }
    }

    private void goDown() {
        clearState(STATE);
        up = false;
    }

    private int countCheckpoints() {
        if (newestNumber == NO_CHECKPOINT) {
            return 0;
        }
        return previousNumber == NO_CHECKPOINT ? 1 : 2;
    }

    // A set of blocks is an int whose bit b stands for block b. Bit 0 is left to the holes, so that
    // each place can be added without a look at what it holds; sizeOf doesn't count it.

    private int blocksOfTree(int volume, int tree) {
        int start = treeStart(volume, tree);
        int set = 0;
        for (int i = 0; i < PLACES_OF_TREE; i++) {
            set |= 1 << held[start + i];
        }
        return set;
    }

    private int blocksInUseWithout(int leftOut) {
        int set = 0;
        for (int i = 0; i < ALL_PLACES; i++) {
            if (i != leftOut) {
                set |= 1 << held[i];
            }
        }
        return set;
    }

    private int countInUse() {
        int inUse = blocksInUseWithout(NO_PLACE);
        return sizeOf(inUse);
    }

    private int freeBlock(int inUse) {
        for (int block = 1; block <= blockLimit; block++) {
            if ((inUse & 1 << block) == 0) {
                return block;
            }
        }
        return NO_BLOCK;
    }

    private static int sizeOf(int set) {
        int answer = 0;
        for (int block = 1; block <= MOST_BLOCKS; block++) {
            if ((set & 1 << block) != 0) {
                answer++;
            }
        }
        return answer;
    }
}
