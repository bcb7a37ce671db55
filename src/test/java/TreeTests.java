import java.lang.reflect.Field;
import java.util.ArrayList;
import java.util.List;
import java.util.Set;
import java.util.TreeMap;
import java.util.TreeSet;

/**
 * "Kept as an adaptive radix tree": the tree inside the object, looked at after every change. No
 * answer tells a node or a table that is never given back, but the calls after it would run out.
 */
public final class TreeTests {
    private static final int CALLS = 512;
    private static final int RUNS_PER_FAMILY = 60;
    private static final int REPORTED = 20;

    private static int wrong = 0;

    // A fixed sequence instead of a random source: each run is the same every time.
    private static long state = 1;

    private static int next(int bound) {
        state = state * 6364136223846793005L + 1442695040888963407L;
        return (int) ((state >>> 33) % bound);
    }

    private final ArtIndex index = new ArtIndex();
    private final TreeMap<Integer, Integer> model = new TreeMap<>();
    private final String run;
    private final int[] depth = (int[]) inside("depth");
    private final int[] prefix = (int[]) inside("prefix");
    private final int[] count = (int[]) inside("count");
    private final long[] sum = (long[]) inside("sum");
    private final int[] fan = (int[]) inside("fan");
    private final int[] table = (int[]) inside("table");
    private final int[] cellDigit = (int[]) inside("cellDigit");
    private final int[] cellChild = (int[]) inside("cellChild");
    private final int[] tableChild = (int[]) inside("tableChild");
    private int calls = 0;
    private Set<Integer> nodesSeen = new TreeSet<>();
    private Set<Integer> tablesSeen = new TreeSet<>();
    private TreeMap<Integer, Integer> keysSeen = new TreeMap<>();

    private TreeTests(String run) {
        this.run = run;
    }

    private Object inside(String name) {
        try {
            Field field = ArtIndex.class.getDeclaredField(name);
            field.setAccessible(true);
            return field.get(index);
        } catch (ReflectiveOperationException e) {
            throw new IllegalStateException("ArtIndex has no field " + name, e);
        }
    }

    private void must(boolean holds, String what) {
        if (!holds) {
            wrong++;
            if (wrong <= REPORTED) {
                System.out.println(run + ", call " + calls + ": not so: " + what);
            }
        }
    }

    private void put(int key, int value) {
        index.put(key, value);
        if (model.containsKey(key) || model.size() < 64) {
            model.put(key, value);
        }
        look();
    }

    private void remove(int key) {
        index.remove(key);
        model.remove(key);
        look();
    }

    private void removeRange(int low, int high) {
        index.removeRange(low, high);
        if (low <= high) {
            model.subMap(low, true, high, true).clear();
        }
        look();
    }

    private void look() {
        calls++;
        nodesSeen = new TreeSet<>();
        tablesSeen = new TreeSet<>();
        keysSeen = new TreeMap<>();
        int root = (Integer) inside("root");
        if (root != 0) {
            lookAt(root);
        }
        must(keysSeen.equals(model), "the leaves are the keys with their values");
        must(usedOf("nodeUsed").equals(nodesSeen), "the nodes in use are those of the tree");
        must(usedOf("tableUsed").equals(tablesSeen), "the tables in use are those of the tree");
        must(count[0] == 0 && sum[0] == 0 && fan[0] == 0 && table[0] == 0, "node 0 stays empty");
    }

    private Set<Integer> usedOf(String name) {
        boolean[] used = (boolean[]) inside(name);
        Set<Integer> all = new TreeSet<>();
        for (int i = 0; i < used.length; i++) {
            if (used[i]) {
                all.add(i);
            }
        }
        return all;
    }

    private void lookAt(int node) {
        must(node > 0 && nodesSeen.add(node), "node " + node + " stands in one place");
        must(prefix[node] == prefix[node] >> 16 - 4 * depth[node] << 16 - 4 * depth[node],
                "only the common digits stand in the prefix of node " + node);
        if (depth[node] == 4) {
            must(count[node] == 1 && fan[node] == 0 && table[node] == 0, "leaf " + node + " is one key");
            must(sum[node] == (int) sum[node], "the sum of leaf " + node + " is a value");
            keysSeen.put(prefix[node], (int) sum[node]);
        } else {
            lookAtBranch(node);
        }
    }

    private void lookAtBranch(int node) {
        must(fan[node] >= 2, "keys part at branch " + node);
        must(table[node] != 0 == fan[node] > 4, "branch " + node + " has a table just for more than four children");
        must(table[node] == 0 || tablesSeen.add(table[node]), "table " + table[node] + " has one owner");
        List<Integer> children = childrenOf(node);
        must(children.size() == fan[node], "branch " + node + " knows how many children it has");
        int keys = 0;
        long values = 0;
        for (int child : children) {
            must(depth[child] > depth[node], "child " + child + " has more digits than branch " + node);
            must(prefix[child] >> 16 - 4 * depth[node] == prefix[node] >> 16 - 4 * depth[node],
                    "child " + child + " has the digits of branch " + node);
            keys += count[child];
            values += sum[child];
            if (depth[child] > depth[node]) {
                lookAt(child);
            }
        }
        must(count[node] == keys, "branch " + node + " counts the keys under it");
        must(sum[node] == values, "branch " + node + " adds up the values under it");
    }

    private List<Integer> childrenOf(int node) {
        List<Integer> children = new ArrayList<>();
        for (int digit = 0; digit < 16; digit++) {
            int child = table[node] == 0 ? childInCells(node, digit) : tableChild[table[node] * 16 + digit];
            if (child != 0) {
                int there = prefix[child] >> 12 - 4 * depth[node] & 15;
                must(there == digit, "child " + child + " stands at its digit");
                children.add(child);
            }
        }
        return children;
    }

    private int childInCells(int node, int digit) {
        int found = 0;
        for (int cell = node * 4; cell < node * 4 + fan[node]; cell++) {
            if (cellDigit[cell] == digit) {
                must(found == 0, "digit " + digit + " stands once in the cells of branch " + node);
                found = cellChild[cell];
            }
        }
        return found;
    }

    /** Keys that crowd different places of the tree. */
    private static int key(int family) {
        switch (family) {
            case 0:
                return next(65536);
            case 1:
                return next(80);
            case 2:
                return 0x1200 + 0x10 * next(16) + next(2) + 0x8000 * next(2);
            case 3:
                return (next(5) << 12) + (next(5) << 8) + (next(6) << 4) + next(2);
            default:
                return 0x1111 * next(2) ^ (1 + next(6)) << 4 * next(4);
        }
    }

    private static void anyChanges() {
        for (int family = 0; family < 5; family++) {
            for (int n = 0; n < RUNS_PER_FAMILY; n++) {
                TreeTests t = new TreeTests("family " + family + ", run " + n);
                int puts = 35 + 10 * (n % 6);
                while (t.calls < CALLS) {
                    t.anyChange(family, puts);
                }
            }
        }
    }

    private void anyChange(int family, int puts) {
        int key = key(family);
        int choice = next(100);
        if (choice < puts) {
            put(key, next(4) == 0 ? Integer.MIN_VALUE + next(3) : next(2001) - 1000);
        } else if (choice < 98) {
            Integer held = model.ceilingKey(key);
            remove(held == null ? key : held);
        } else {
            removeRange(key, Math.min(65535, key + next(3000)));
        }
    }

    /** Fifteen branches of five children or more, which is all that 64 keys allow, twice. */
    private static void mostTables() {
        TreeTests t = new TreeTests("most tables");
        for (int round = 0; round < 2; round++) {
            for (int n = 0; n < 60; n++) {
                t.put((n / 30 << 12) + (n / 5 % 6 << 8) + (n % 5), n);
            }
            for (int n = 0; n < 4; n++) {
                t.put(0x8000 + (n << 12), n);
            }
            t.must(t.tablesSeen.size() == 15, "fifteen tables are in use");
            t.removeRange(0, 65535);
            t.must(t.nodesSeen.isEmpty(), "all nodes are given back");
        }
    }

    /** Branches of two wherever 64 keys allow it, twice. */
    private static void mostNodes() {
        TreeTests t = new TreeTests("most nodes");
        for (int round = 0; round < 2; round++) {
            for (int n = 0; n < 64; n++) {
                t.put((n / 8 << 12) + (n / 4 % 2 << 8) + (n / 2 % 2 << 4) + n % 2, n);
            }
            t.must(t.nodesSeen.size() == 64 + 32 + 16 + 8 + 1, "121 nodes are in use");
            for (int n = 63; n >= 0; n--) {
                t.remove((n / 8 << 12) + (n / 4 % 2 << 8) + (n / 2 % 2 << 4) + n % 2);
            }
            t.must(t.nodesSeen.isEmpty(), "all nodes are given back");
        }
    }

    public static void main(String[] args) {
        anyChanges();
        mostTables();
        mostNodes();
        System.out.println(wrong == 0 ? "the tree is as it must be" : wrong + " faults in the tree");
        if (wrong != 0) {
            System.exit(1);
        }
    }
}
