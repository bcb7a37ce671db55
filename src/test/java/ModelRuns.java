import java.util.ArrayList;
import java.util.List;
import java.util.TreeMap;

/** Long runs of calls on new objects, every answer compared with the one a TreeMap gives. */
public final class ModelRuns {
    private static final int RUNS_PER_FAMILY = 1500;
    private static final int CALLS = 512;
    private static final int FAMILIES = 6;
    private static final int REPORTED = 20;

    private static int wrong = 0;

    // A fixed sequence instead of a random source: each run is the same every time.
    private static long state = 1;

    private static int next(int bound) {
        state = state * 6364136223846793005L + 1442695040888963407L;
        return (int) ((state >>> 33) % bound);
    }

    private final TreeMap<Integer, Integer> model = new TreeMap<>();
    private final ArtIndex index = new ArtIndex();
    private final List<String> calls = new ArrayList<>();
    private final int family;
    private final int putShare;

    private ModelRuns(int family, int putShare) {
        this.family = family;
        this.putShare = putShare;
    }

    /** Keys that crowd different places of the tree. */
    private int key() {
        switch (family) {
            case 0:
                return next(65536);
            case 1:
                return next(80);
            case 2:
                return (next(6) << 12) + (next(6) << 8) + (next(2) << 4);
            case 3:
                return 0x1200 + 0x10 * next(16) + next(2) + 0x8000 * next(2);
            case 4:
                return 65535 - next(100) * next(3) * next(300);
            default:
                return (next(5) << 12) + (next(5) << 8) + (next(6) << 4) + next(2);
        }
    }

    /** Mostly keys, now and then a number near or far outside 0..65535. */
    private int number() {
        switch (next(24)) {
            case 0:
                return -1 - next(3);
            case 1:
                return 65534 + next(4);
            case 2:
                return Integer.MIN_VALUE + next(2);
            case 3:
                return Integer.MAX_VALUE - next(2);
            case 4:
                return key() + 65536;
            case 5:
                return next(3);
            default:
                return near(key());
        }
    }

    private int near(int key) {
        int moved = key + next(3) - 1;
        return next(4) == 0 ? moved : key;
    }

    /** Often a key that is there, so that hits are as common as misses. */
    private int likelyKey() {
        if (model.isEmpty() || next(3) == 0) {
            return number();
        }
        Integer held = model.ceilingKey(number());
        return held == null ? model.lastKey() : held;
    }

    private int value() {
        switch (next(6)) {
            case 0:
                return Integer.MIN_VALUE;
            case 1:
                return Integer.MAX_VALUE;
            case 2:
                return 0;
            default:
                return next(2001) - 1000;
        }
    }

    private static boolean isKey(int number) {
        return 0 <= number && number <= 65535;
    }

    private int putDue(int key, int value) {
        if (!isKey(key)) {
            return -1;
        }
        if (model.containsKey(key)) {
            model.put(key, value);
            return 0;
        }
        if (model.size() == 64) {
            return -2;
        }
        model.put(key, value);
        return 1;
    }

    private int removeDue(int key) {
        if (!isKey(key)) {
            return -1;
        }
        return model.remove(key) == null ? -3 : model.size();
    }

    private int countDue(int low, int high) {
        return low > high ? 0 : model.subMap(low, true, high, true).size();
    }

    private int removeRangeDue(int low, int high) {
        if (!isKey(low) || !isKey(high)) {
            return -1;
        }
        int taken = countDue(low, high);
        if (taken > 0) {
            model.subMap(low, true, high, true).clear();
        }
        return taken;
    }

    private int atRankDue(int rank) {
        int passed = 0;
        for (int key : model.keySet()) {
            if (passed == rank) {
                return key;
            }
            passed++;
        }
        return -3;
    }

    private static String hex(int key) {
        return String.format("%04x", key);
    }

    private int sharedDue(int key) {
        if (!isKey(key)) {
            return -1;
        }
        int most = -3;
        for (int held : model.keySet()) {
            int d = 0;
            while (d < 4 && hex(held).charAt(d) == hex(key).charAt(d)) {
                d++;
            }
            most = Math.max(most, d);
        }
        return most;
    }

    private long sumDue(int key, int d) {
        if (!isKey(key) || d < 0 || d > 4) {
            return 0;
        }
        long sum = 0;
        String start = hex(key).substring(0, d);
        for (int held : model.keySet()) {
            if (hex(held).startsWith(start)) {
                sum += model.get(held);
            }
        }
        return sum;
    }

    private static int keyOrNone(Integer key) {
        return key == null ? -3 : key;
    }

    private void check(String call, long got, long want) {
        calls.add(call);
        if (got == want) {
            return;
        }
        wrong++;
        if (wrong <= REPORTED) {
            int from = Math.max(0, calls.size() - 12);
            System.out.println("family " + family + ", call " + calls.size() + ": " + call + " answered " + got
                    + ", due is " + want + "; the last calls: " + calls.subList(from, calls.size()));
        }
    }

    private void put(int key, int value) {
        check("put(" + key + ", " + value + ")", index.put(key, value), putDue(key, value));
    }

    private void remove(int key) {
        check("remove(" + key + ")", index.remove(key), removeDue(key));
    }

    private void removeRange(int low, int high) {
        check("removeRange(" + low + ", " + high + ")", index.removeRange(low, high), removeRangeDue(low, high));
    }

    private void ask() {
        int a = likelyKey();
        int b = likelyKey();
        switch (next(9)) {
            case 0:
                check("contains(" + a + ")", index.contains(a) ? 1 : 0, model.containsKey(a) ? 1 : 0);
                break;
            case 1:
                check("valueOf(" + a + ")", index.valueOf(a), model.getOrDefault(a, 0));
                break;
            case 2:
                check("size()", index.size(), model.size());
                break;
            case 3:
                check("above(" + a + ")", index.above(a), keyOrNone(model.higherKey(a)));
                break;
            case 4:
                check("below(" + a + ")", index.below(a), keyOrNone(model.lowerKey(a)));
                break;
            case 5:
                int rank = next(10) == 0 ? a : next(model.size() + 2) - 1;
                check("atRank(" + rank + ")", index.atRank(rank), atRankDue(rank));
                break;
            case 6:
                check("countRange(" + a + ", " + b + ")", index.countRange(a, b), countDue(a, b));
                break;
            case 7:
                int near = a ^ (1 << next(16));
                check("sharedDigits(" + near + ")", index.sharedDigits(near), sharedDue(near));
                break;
            default:
                int d = next(20) == 0 ? b : next(7) - 1;
                check("sumUnder(" + a + ", " + d + ")", index.sumUnder(a, d), sumDue(a, d));
                break;
        }
    }

    private void step() {
        int kind = next(100);
        if (kind < putShare) {
            put(next(5) == 0 ? likelyKey() : number(), value());
        } else if (kind < 60) {
            remove(likelyKey());
        } else if (kind < 62) {
            int low = likelyKey();
            removeRange(low, next(4) == 0 ? likelyKey() : low + next(64));
        } else {
            ask();
        }
    }

    private void run() {
        for (int call = 0; call < CALLS; call++) {
            step();
        }
    }

    public static void main(String[] args) {
        for (int family = 0; family < FAMILIES; family++) {
            for (int run = 0; run < RUNS_PER_FAMILY; run++) {
                new ModelRuns(family, 25 + next(34)).run();
            }
        }
        System.out.println(wrong == 0 ? "all answers are as due" : wrong + " answers are not as due");
        if (wrong != 0) {
            System.exit(1);
        }
    }
}
