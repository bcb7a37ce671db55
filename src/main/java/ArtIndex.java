/**
 * An ordered index over 16-bit keys, kept as an adaptive radix tree.
 *
 * A leaf is a key; a branch stands where keys part, so it has two children or more, and a run of
 * digits in which no keys part has no node of its own. Every node tells how many leading digits
 * all keys under it have in common (its depth, which is 4 for a leaf), those digits, and the
 * number of the keys and the sum of their values. A branch keeps up to four children in cells of
 * its own and borrows a table of sixteen when a fifth one comes.
 */
public final class ArtIndex {
    public static final int BAD = -1;
    public static final int FULL = -2;
    public static final int NONE = -3;

    private static final int MAX_KEY = 65535;
    private static final int MAX_KEYS = 64;
    private static final int DIGITS = 4;
    private static final int DIGIT_BITS = 4;
    private static final int KEY_BITS = 16;
    private static final int DIGIT_VALUES = 16;
    private static final int OWN_CELLS = 4;

    // Node 0 is no node: it stays empty, so that the count and the sum of no node read as 0.
    private static final int NIL = 0;
    // Beside node 0: 64 leaves, and 63 branches, as each branch joins two children or more.
    private static final int NODES = 128;
    private static final int NODE_CELLS = 512;
    private static final int NO_CELL = -1;

    // Table 0 is no table. A branch with a table has five children or more, so each takes four
    // of the 63 joins that 64 leaves allow: fifteen tables are always enough.
    private static final int NO_TABLE = 0;
    private static final int TABLES = 16;
    private static final int TABLE_CELLS = 256;

    private final boolean[] nodeUsed = new boolean[NODES];
    private final int[] depth = new int[NODES];
    // The digits common to all keys under the node, as a key whose further digits are 0.
    private final int[] prefix = new int[NODES];
    private final int[] count = new int[NODES];
    // A long holds the sum of 64 ints; a leaf's sum is its value.
    private final long[] sum = new long[NODES];
    private final int[] fan = new int[NODES];
    private final int[] table = new int[NODES];
    private final int[] cellDigit = new int[NODE_CELLS];
    private final int[] cellChild = new int[NODE_CELLS];
    private final boolean[] tableUsed = new boolean[TABLES];
    private final int[] tableChild = new int[TABLE_CELLS];
    private int root = NIL;

    public ArtIndex() {
        // Arrays of zeros are the empty index already.
    }

    public int put(int key, int value) {
        if (!isKey(key)) {
            return BAD;
        }
        int leaf = leafOf(key);
        if (leaf != NIL) {
            addOnPath(key, 0, value - sum[leaf]);
            return 0;
        }
        if (count[root] >= MAX_KEYS) {
            return FULL;
        }
        addLeaf(key);
        addOnPath(key, 1, value);
        return 1;
    }

    public int remove(int key) {
        if (!isKey(key)) {
            return BAD;
        }
        int leaf = leafOf(key);
        if (leaf == NIL) {
            return NONE;
        }
        takeOut(leaf);
        return count[root];
    }

    public int removeRange(int low, int high) {
        if (!isKey(low) || !isKey(high)) {
            return BAD;
        }
        if (low > high) {
            return 0;
        }
        int first = countBelow(low);
        int taken = countUpTo(high) - first;
        for (int i = 0; i < taken; i++) {
            int leaf = leafAtRank(first);
            takeOut(leaf);
        }
        return taken;
    }

    public boolean contains(int key) {
        return isKey(key) && leafOf(key) != NIL;
    }

    public int valueOf(int key) {
        if (!isKey(key)) {
            return 0;
        }
        int leaf = leafOf(key);
        return (int) sum[leaf];
    }

    public int size() {
        return count[root];
    }

    public int above(int bound) {
        int rank = countUpTo(bound);
        return atRank(rank);
    }

    public int below(int bound) {
        int rank = countBelow(bound) - 1;
        return atRank(rank);
    }

    public int atRank(int rank) {
        if (rank < 0 || rank >= count[root]) {
            return NONE;
        }
        int leaf = leafAtRank(rank);
        return prefix[leaf];
    }

    public int countRange(int low, int high) {
        if (low > high) {
            return 0;
        }
        return countUpTo(high) - countBelow(low);
    }

    public int sharedDigits(int key) {
        if (!isKey(key)) {
            return BAD;
        }
        if (root == NIL) {
            return NONE;
        }
        int node = root;
        for (int level = 0; level < DIGITS && isUnder(key, node); level++) {
            int child = childToward(node, key);
            if (child == NIL) {
                return depth[node];
            }
            node = child;
        }
        return digitsInCommon(prefix[node], key);
    }

    public long sumUnder(int key, int d) {
        if (!isKey(key) || d < 0 || d > DIGITS) {
            return 0;
        }
        int node = root;
        for (int level = 0; level < DIGITS && node != NIL && depth[node] < d; level++) {
            node = childToward(node, key);
        }
        // The way down looks only at digits where keys part, so the others are compared here.
        return firstDigits(prefix[node], d) == firstDigits(key, d) ? sum[node] : 0;
    }

    private static boolean isKey(int number) {
        return number >= 0 && number <= MAX_KEY;
    }

    private static int firstDigits(int key, int d) {
        return key >> (KEY_BITS - DIGIT_BITS * d);
    }

    private static int digitAt(int key, int place) {
        return (key >> (KEY_BITS - DIGIT_BITS * (place + 1))) & (DIGIT_VALUES - 1);
    }

    private static int digitsInCommon(int one, int other) {
        for (int d = 0; d < DIGITS; d++) {
            if (digitAt(one, d) != digitAt(other, d)) {
                return d;
            }
        }
        return DIGITS;
    }

    private boolean isUnder(int key, int node) {
        return firstDigits(key, depth[node]) == firstDigits(prefix[node], depth[node]);
    }

    private int childToward(int node, int key) {
        if (depth[node] >= DIGITS) {
            return NIL;
        }
        int digit = digitAt(key, depth[node]);
        return childAt(node, digit);
    }

    private int leafOf(int key) {
        int node = root;
        for (int level = 0; level < DIGITS && node != NIL && depth[node] < DIGITS; level++) {
            node = childToward(node, key);
        }
        return prefix[node] == key ? node : NIL;
    }

    private int leafAtRank(int rank) {
        int node = root;
        int left = rank;
        for (int level = 0; level < DIGITS && depth[node] < DIGITS; level++) {
            int child = childAt(node, 0);
            for (int digit = 1; digit < DIGIT_VALUES && left >= count[child]; digit++) {
                left -= count[child];
                child = childAt(node, digit);
            }
            node = child;
        }
        return node;
    }

    private int countBelow(int bound) {
        if (bound < 0) {
            return 0;
        }
        if (bound > MAX_KEY) {
            return count[root];
        }
        int total = 0;
        int node = root;
        for (int level = 0; level <= DIGITS && node != NIL; level++) {
            if (!isUnder(bound, node)) {
                return prefix[node] < bound ? total + count[node] : total;
            }
            total += countBeforeChild(node, bound);
            node = childToward(node, bound);
        }
        return total;
    }

    private int countUpTo(int bound) {
        // Past the greatest key nothing is added to bound, so that it cannot wrap around.
        return bound >= MAX_KEY ? count[root] : countBelow(bound + 1);
    }

    private int countBeforeChild(int node, int key) {
        if (depth[node] >= DIGITS) {
            return 0;
        }
        int end = digitAt(key, depth[node]);
        int total = 0;
        for (int digit = 0; digit < end; digit++) {
            int child = childAt(node, digit);
            total += count[child];
        }
        return total;
    }

    private void addOnPath(int key, int keys, long amount) {
        int node = root;
        for (int level = 0; level <= DIGITS && node != NIL; level++) {
            count[node] += keys;
            sum[node] += amount;
            node = childToward(node, key);
        }
    }

    private void addLeaf(int key) {
        int leaf = newNode(key, DIGITS);
        int parent = NIL;
        int node = root;
        for (int level = 0; level < DIGITS && node != NIL && isUnder(key, node); level++) {
            parent = node;
            node = childToward(node, key);
        }
        if (node != NIL) {
            int branch = newBranch(node, leaf);
            putInPlace(parent, branch);
        } else if (parent != NIL) {
            addChild(parent, leaf);
        } else {
            root = leaf;
        }
    }

    private int newBranch(int node, int leaf) {
        int common = digitsInCommon(prefix[node], prefix[leaf]);
        int branch = newNode(prefix[leaf], common);
        // The leaf is counted later, on the whole path to it.
        count[branch] = count[node];
        sum[branch] = sum[node];
        addChild(branch, node);
        addChild(branch, leaf);
        return branch;
    }

    private void takeOut(int leaf) {
        int key = prefix[leaf];
        addOnPath(key, -1, -sum[leaf]);
        int grandparent = NIL;
        int parent = NIL;
        int node = root;
        for (int level = 0; level < DIGITS && node != leaf; level++) {
            grandparent = parent;
            parent = node;
            node = childToward(node, key);
        }
        nodeUsed[leaf] = false;
        if (parent == NIL) {
            root = NIL;
            return;
        }
        dropChild(parent, key);
        if (fan[parent] == 1) {
            int only = cellChild[parent * OWN_CELLS];
            putInPlace(grandparent, only);
            nodeUsed[parent] = false;
        }
    }

    private int newNode(int key, int d) {
        int node = unusedNode();
        int further = KEY_BITS - DIGIT_BITS * d;
        nodeUsed[node] = true;
        depth[node] = d;
        prefix[node] = (key >> further) << further;
        count[node] = 0;
        sum[node] = 0;
        fan[node] = 0;
        table[node] = NO_TABLE;
        return node;
    }

    private int unusedNode() {
        for (int node = 1; node < NODES; node++) {
            if (!nodeUsed[node]) {
                return node;
            }
        }
        return NIL;
    }

    private int unusedTable() {
        for (int t = 1; t < TABLES; t++) {
            if (!tableUsed[t]) {
                return t;
            }
        }
        return NO_TABLE;
    }

    private int childAt(int node, int digit) {
        if (table[node] != NO_TABLE) {
            return tableChild[table[node] * DIGIT_VALUES + digit];
        }
        int cell = cellOf(node, digit);
        return cell == NO_CELL ? NIL : cellChild[cell];
    }

    private int cellOf(int node, int digit) {
        int first = node * OWN_CELLS;
        for (int i = 0; i < OWN_CELLS && i < fan[node]; i++) {
            if (cellDigit[first + i] == digit) {
                return first + i;
            }
        }
        return NO_CELL;
    }

    private void addChild(int node, int child) {
        if (table[node] == NO_TABLE && fan[node] == OWN_CELLS) {
            moveToTable(node);
        }
        int digit = digitAt(prefix[child], depth[node]);
        if (table[node] != NO_TABLE) {
            tableChild[table[node] * DIGIT_VALUES + digit] = child;
        } else {
            int cell = node * OWN_CELLS + fan[node];
            cellDigit[cell] = digit;
            cellChild[cell] = child;
        }
        fan[node]++;
    }

    // Puts a node where the one with the same digits stood under the parent.
    private void putInPlace(int parent, int node) {
        if (parent == NIL) {
            root = node;
            return;
        }
        int digit = digitAt(prefix[node], depth[parent]);
        if (table[parent] != NO_TABLE) {
            tableChild[table[parent] * DIGIT_VALUES + digit] = node;
            return;
        }
        int cell = cellOf(parent, digit);
        if (cell != NO_CELL) {
            cellChild[cell] = node;
        }
    }

    private void dropChild(int node, int key) {
        int digit = digitAt(key, depth[node]);
        if (table[node] != NO_TABLE) {
            tableChild[table[node] * DIGIT_VALUES + digit] = NIL;
            fan[node]--;
            if (fan[node] <= OWN_CELLS) {
                moveToCells(node);
            }
            return;
        }
        int cell = cellOf(node, digit);
        if (cell != NO_CELL) {
            fan[node]--;
            int last = node * OWN_CELLS + fan[node];
            cellDigit[cell] = cellDigit[last];
            cellChild[cell] = cellChild[last];
        }
    }

    private void moveToTable(int node) {
        int t = unusedTable();
        tableUsed[t] = true;
        int start = t * DIGIT_VALUES;
        for (int digit = 0; digit < DIGIT_VALUES; digit++) {
            tableChild[start + digit] = NIL;
        }
        int first = node * OWN_CELLS;
        for (int i = 0; i < OWN_CELLS; i++) {
            tableChild[start + cellDigit[first + i]] = cellChild[first + i];
        }
        table[node] = t;
    }

    private void moveToCells(int node) {
        int t = table[node];
        int cell = node * OWN_CELLS;
        int end = cell + OWN_CELLS;
        for (int digit = 0; digit < DIGIT_VALUES && cell < end; digit++) {
            int child = tableChild[t * DIGIT_VALUES + digit];
            if (child != NIL) {
                cellDigit[cell] = digit;
                cellChild[cell] = child;
                cell++;
            }
        }
        tableUsed[t] = false;
        table[node] = NO_TABLE;
    }
}
