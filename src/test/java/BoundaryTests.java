import java.util.function.Function;

/**
 * The boundary cases of the document, one test for each sentence that names one. A wrong answer is
 * printed with the sentence that it breaks.
 */
public final class BoundaryTests {
    private static final int BAD = -1;
    private static final int FULL = -2;
    private static final int NONE = -3;
    private static final int MIN = Integer.MIN_VALUE;
    private static final int MAX = Integer.MAX_VALUE;
    private static final int MOST_CALLS = 512;
    private static final int REPORTED_EACH = 5;

    // Beside the neighbours of the limits: numbers whose low 16 bits are keys of the states below.
    private static final int[] TOO_SMALL = {
        -1, -2, -3, -65535, -65536, -65537, 0x1234 - 65536, 0x1234 - (1 << 24), -(1 << 30), MIN + 0x1234, MIN + 1, MIN
    };
    private static final int[] TOO_LARGE = {
        65536, 65537, 65538, 65536 + 0x1234, 131071, 131072, (1 << 24) + 0x1234, 1 << 30, MAX - 1, MAX
    };
    private static final int[] NO_KEYS = joined(TOO_SMALL, TOO_LARGE);
    // A shift by 4 * d takes only five bits of its distance, so some of these pass for 0..4 there.
    private static final int[] NO_DIGIT_COUNTS = {
        -1, -2, -4, -5, -8, 5, 6, 8, 9, 12, 16, 1 << 30, -(1 << 30), MIN, MAX
    };
    private static final int[] VALUES = {0, 1, -1, -2, -3, 65535, 65536, 1 << 30, MIN, MIN + 1, MAX - 1, MAX};

    private static final int[] EMPTY = {};
    // 0x1234 has a neighbour that parts from it at each of its four digits.
    private static final int[] SOME = {0, 0x1234, 0x1235, 0x1236, 0x1240, 0x1300, 0x5678, 65535};
    private static final int[] DENSE = sixtyFour(0x1200, 1);
    private static final int[] SPREAD = sixtyFour(0, 1040);
    private static final int[] TOP = sixtyFour(65535 - 63 * 16, 16);
    private static final int[][] STATES = {EMPTY, {0}, {65535}, {0x1234}, SOME, DENSE, SPREAD, TOP};
    private static final int[][] FULL_STATES = {DENSE, SPREAD, TOP};

    private static int wrong = 0;
    private static int wrongHere = 0;
    private static int sentences = 0;
    private static String sentence = "";

    private static int[] joined(int[] one, int[] other) {
        int[] all = new int[one.length + other.length];
        System.arraycopy(one, 0, all, 0, one.length);
        System.arraycopy(other, 0, all, one.length, other.length);
        return all;
    }

    private static int[] sixtyFour(int first, int step) {
        int[] keys = new int[64];
        for (int i = 0; i < 64; i++) {
            keys[i] = first + i * step;
        }
        return keys;
    }

    private static void report(String text) {
        wrong++;
        wrongHere++;
        if (wrongHere <= REPORTED_EACH) {
            System.out.println(sentence + " -- " + text);
        }
    }

    private record Answer(String call, long got) {
        void is(long want) {
            if (got != want) {
                report(call + " answered " + got + ", due is " + want);
            }
        }

        void is(boolean want) {
            is(want ? 1 : 0);
        }
    }

    /** An index whose calls are counted, as nothing is promised after the 512th. */
    private static final class Probe {
        private final ArtIndex index = new ArtIndex();
        private int calls = 0;

        private Answer answer(String call, long got) {
            calls++;
            if (calls > MOST_CALLS) {
                report("this test itself makes more than " + MOST_CALLS + " calls");
            }
            return new Answer(call, got);
        }

        Answer put(int key, int value) {
            return answer("put(" + key + ", " + value + ")", index.put(key, value));
        }

        Answer remove(int key) {
            return answer("remove(" + key + ")", index.remove(key));
        }

        Answer removeRange(int low, int high) {
            return answer("removeRange(" + low + ", " + high + ")", index.removeRange(low, high));
        }

        Answer contains(int key) {
            return answer("contains(" + key + ")", index.contains(key) ? 1 : 0);
        }

        Answer valueOf(int key) {
            return answer("valueOf(" + key + ")", index.valueOf(key));
        }

        Answer size() {
            return answer("size()", index.size());
        }

        Answer above(int bound) {
            return answer("above(" + bound + ")", index.above(bound));
        }

        Answer below(int bound) {
            return answer("below(" + bound + ")", index.below(bound));
        }

        Answer atRank(int rank) {
            return answer("atRank(" + rank + ")", index.atRank(rank));
        }

        Answer countRange(int low, int high) {
            return answer("countRange(" + low + ", " + high + ")", index.countRange(low, high));
        }

        Answer sharedDigits(int key) {
            return answer("sharedDigits(" + key + ")", index.sharedDigits(key));
        }

        Answer sumUnder(int key, int d) {
            return answer("sumUnder(" + key + ", " + d + ")", index.sumUnder(key, d));
        }

        /** The index holds just these keys, given in their order, each with its usual value. */
        void holds(int... keys) {
            size().is(keys.length);
            long sum = 0;
            for (int rank = 0; rank < keys.length; rank++) {
                atRank(rank).is(keys[rank]);
                contains(keys[rank]).is(true);
                valueOf(keys[rank]).is(usualValue(keys[rank]));
                sum += usualValue(keys[rank]);
            }
            atRank(keys.length).is(NONE);
            countRange(MIN, MAX).is(keys.length);
            sumUnder(0, 0).is(sum);
        }
    }

    /** Values of both signs that tell the keys apart; their sums leave the int range. */
    private static int usualValue(int key) {
        return (key - 30000) * 60000 + key;
    }

    private static Probe with(int... keys) {
        Probe x = new Probe();
        for (int key : keys) {
            x.put(key, usualValue(key)).is(1);
        }
        return x;
    }

    /** The call answers this in each of the states, and leaves the index as it was. */
    private static void leavesAsItWas(int[][] states, long want, Function<Probe, Answer> call) {
        for (int[] keys : states) {
            Probe x = with(keys);
            call.apply(x).is(want);
            x.holds(keys);
        }
    }

    private static boolean has(int[] keys, int key) {
        return countOf(keys, key, key) == 1;
    }

    private static int countOf(int[] keys, long low, long high) {
        int n = 0;
        for (int key : keys) {
            if (low <= key && key <= high) {
                n++;
            }
        }
        return n;
    }

    /** The keys without those from low to high. */
    private static int[] without(int[] keys, int low, int high) {
        int[] left = new int[keys.length - countOf(keys, low, high)];
        int n = 0;
        for (int key : keys) {
            if (key < low || key > high) {
                left[n++] = key;
            }
        }
        return left;
    }

    /** For every key, outermost ones included: a few next to it that the state may lack. */
    private static int[] neighbours(int key) {
        int before = Math.max(0, key - 1);
        int after = Math.min(65535, key + 1);
        return new int[] {before, after, key ^ 0x10, key ^ 0x100, key ^ 0x1000, key ^ 0x8000};
    }

    // ---- What it is, Terms ----

    private static void all512CallsAreAnswered() {
        Probe x = new Probe();
        for (int call = 0; call < MOST_CALLS; call++) {
            x.put(call * 128 + 127, call).is(call < 64 ? 1 : FULL);
        }
        Probe y = new Probe();
        for (int call = 0; call < MOST_CALLS - 128; call += 128) {
            for (int i = 0; i < 64; i++) {
                y.put((i * 1021 + call * 77) % 65536, i).is(1);
            }
            for (int i = 63; i >= 0; i--) {
                y.remove((i * 1021 + call * 77) % 65536).is(i);
            }
        }
        for (int i = 0; i < 127; i++) {
            y.put(i * 513, i).is(i < 64 ? 1 : FULL);
        }
        y.sumUnder(0, 0).is(63 * 32);
    }

    /** Beside this many keys that stay, which part at one digit, one more comes and goes. */
    private static void oneKeyComesAndGoes(int staying, int shift) {
        Probe x = new Probe();
        for (int i = 0; i < staying; i++) {
            x.put(i << shift, 1).is(1);
        }
        int coming = staying << shift;
        for (int calls = staying; calls + 2 < MOST_CALLS; calls += 2) {
            x.put(coming, 5).is(1);
            x.remove(coming).is(staying);
        }
        x.sumUnder(0, 0).is(staying);
    }

    private static void all512ChangesAreMade() {
        for (int shift = 0; shift < 16; shift += 4) {
            for (int staying = 0; staying < 16; staying++) {
                oneKeyComesAndGoes(staying, shift);
            }
        }
    }

    private static void upTo64KeysAreHeld() {
        for (int[] keys : FULL_STATES) {
            with(keys).holds(keys);
        }
    }

    private static void everyNumberFrom0To65535IsAKey() {
        for (int key = 0; key <= 65535; key++) {
            Probe x = new Probe();
            x.put(key, 5).is(1);
            x.contains(key).is(true);
            x.atRank(0).is(key);
            x.above(key - 1).is(key);
            x.below(key + 1).is(key);
            x.sharedDigits(key).is(4);
            x.remove(key).is(0);
        }
    }

    private static void everyIntIsAValue() {
        for (int value : VALUES) {
            Probe x = new Probe();
            x.put(0x1234, value).is(1);
            x.contains(0x1234).is(true);
            x.valueOf(0x1234).is(value);
            x.sumUnder(0x1234, 4).is(value);
        }
    }

    private static void noKeyIsInItTwice() {
        for (int key : SOME) {
            Probe x = with(SOME);
            x.put(key, usualValue(key)).is(0);
            x.holds(SOME);
            x.countRange(key, key).is(1);
            x.remove(key).is(SOME.length - 1);
            x.contains(key).is(false);
            x.remove(key).is(NONE);
        }
    }

    private static void theRankIsTheNumberOfSmallerKeys() {
        Probe x = with(0x8000);
        x.atRank(0).is(0x8000);
        x.put(65535, 1).is(1);
        x.atRank(0).is(0x8000);
        x.put(0, 1).is(1);
        x.atRank(0).is(0);
        x.atRank(1).is(0x8000);
        x.atRank(2).is(65535);
        x.remove(0).is(2);
        x.atRank(0).is(0x8000);
        x.atRank(1).is(65535);
    }

    private static void keysShareTheirFirstDigitsAlone() {
        Probe x = with(0x1234);
        x.sharedDigits(0x1234).is(4);
        x.sharedDigits(0x1235).is(3);
        x.sharedDigits(0x1224).is(2);
        x.sharedDigits(0x1334).is(1);
        x.sharedDigits(0x2234).is(0);
        // Near in number, and yet with no first digit in common.
        Probe y = with(0x0fff);
        y.sharedDigits(0x1000).is(0);
        y.sharedDigits(0x0f00).is(2);
        Probe z = with(0);
        z.sharedDigits(65535).is(0);
        z.sharedDigits(0x000f).is(3);
        z.sharedDigits(0x00ff).is(2);
        z.sharedDigits(0x0fff).is(1);
    }

    // ---- Promise 1 ----

    private static void aNewObjectIsEmpty() {
        for (int key : new int[] {0, 1, 0x1234, 65534, 65535}) {
            new Probe().holds();
            Probe x = new Probe();
            x.contains(key).is(false);
            x.valueOf(key).is(0);
            x.size().is(0);
            x.above(key).is(NONE);
            x.below(key).is(NONE);
            x.atRank(key).is(NONE);
            x.countRange(0, key).is(0);
            x.sharedDigits(key).is(NONE);
            x.sumUnder(key, 0).is(0);
            x.sumUnder(key, 4).is(0);
            x.remove(key).is(NONE);
            x.removeRange(0, key).is(0);
            x.put(key, usualValue(key)).is(1);
            x.holds(key);
            new Probe().holds();
        }
    }

    private static void objectsAreApart() {
        Probe x = new Probe();
        Probe y = new Probe();
        for (int i = 0; i < 64; i++) {
            x.put(DENSE[i], usualValue(DENSE[i])).is(1);
            y.size().is(i);
            y.put(SPREAD[i], usualValue(SPREAD[i])).is(1);
        }
        x.holds(DENSE);
        y.removeRange(0, 65535).is(64);
        y.holds();
        x.size().is(64);
        new Probe().holds();
    }

    // ---- Promise 2 ----

    private static void putOfATooSmallKey() {
        for (int key : TOO_SMALL) {
            leavesAsItWas(STATES, BAD, x -> x.put(key, 7));
        }
    }

    private static void putOfATooLargeKey() {
        for (int key : TOO_LARGE) {
            leavesAsItWas(STATES, BAD, x -> x.put(key, 7));
        }
    }

    private static void putTestsBadBeforeTheOthers() {
        // The low 16 bits are a key of DENSE, and the index is full: neither matters.
        leavesAsItWas(FULL_STATES, BAD, x -> x.put(65536 + 0x1200, 7));
        leavesAsItWas(FULL_STATES, BAD, x -> x.put(0x1200 - 65536, 7));
        leavesAsItWas(FULL_STATES, BAD, x -> x.put(-1, 7));
        leavesAsItWas(FULL_STATES, BAD, x -> x.put(65536, 7));
    }

    private static void putTestsThereAlreadyBeforeFull() {
        for (int[] keys : FULL_STATES) {
            Probe x = new Probe();
            for (int key : keys) {
                x.put(key, 7).is(1);
            }
            for (int key : keys) {
                x.put(key, usualValue(key)).is(0);
            }
            x.holds(keys);
        }
    }

    private static void putReplacesTheValue() {
        for (int first : VALUES) {
            for (int second : VALUES) {
                Probe x = with(0, 65535);
                x.put(0x1234, first).is(1);
                x.put(0x1234, second).is(0);
                x.valueOf(0x1234).is(second);
                x.size().is(3);
                x.sumUnder(0, 0).is((long) second + usualValue(0) + usualValue(65535));
                x.put(0x1234, usualValue(0x1234)).is(0);
                x.holds(0, 0x1234, 65535);
            }
        }
    }

    private static void putAnswersFullAt64Keys() {
        for (int[] keys : FULL_STATES) {
            for (int near : new int[] {keys[0], keys[31], keys[63]}) {
                for (int key : neighbours(near)) {
                    if (!has(keys, key)) {
                        leavesAsItWas(new int[][] {keys}, FULL, x -> x.put(key, 7));
                    }
                }
            }
        }
    }

    private static void putFillsAFreedPlace() {
        for (int[] keys : FULL_STATES) {
            Probe x = with(keys);
            x.put(0x8001, usualValue(0x8001)).is(FULL);
            x.remove(keys[20]).is(63);
            x.put(0x8001, usualValue(0x8001)).is(1);
            x.put(keys[20], usualValue(keys[20])).is(FULL);
            x.removeRange(0x8001, 0x8001).is(1);
            x.put(keys[20], usualValue(keys[20])).is(1);
            x.put(0x8001, usualValue(0x8001)).is(FULL);
            x.holds(keys);
        }
    }

    private static void putAddsTheFirstAndTheLastKey() {
        for (int key : new int[] {0, 1, 0x7fff, 0x8000, 65534, 65535}) {
            Probe x = new Probe();
            x.put(key, usualValue(key)).is(1);
            x.holds(key);
            x.remove(key).is(0);
            x.put(key, usualValue(key)).is(1);
            x.holds(key);
        }
        for (int[] keys : FULL_STATES) {
            for (int last : new int[] {keys[0], keys[31], keys[63]}) {
                Probe x = with(without(keys, last, last));
                x.size().is(63);
                x.put(last, usualValue(last)).is(1);
                x.holds(keys);
            }
        }
    }

    private static void putInAnyOrder() {
        for (int[] keys : STATES) {
            Probe down = new Probe();
            Probe mixed = new Probe();
            for (int i = 0; i < keys.length; i++) {
                int last = keys[keys.length - 1 - i];
                // 37 has no factor in common with the lengths of the states: each key comes once.
                int any = keys[i * 37 % keys.length];
                down.put(last, usualValue(last)).is(1);
                mixed.put(any, usualValue(any)).is(1);
            }
            down.holds(keys);
            mixed.holds(keys);
        }
    }

    // ---- Promise 3 ----

    private static void removeOfATooSmallKey() {
        for (int key : TOO_SMALL) {
            leavesAsItWas(STATES, BAD, x -> x.remove(key));
        }
    }

    private static void removeOfATooLargeKey() {
        for (int key : TOO_LARGE) {
            leavesAsItWas(STATES, BAD, x -> x.remove(key));
        }
    }

    private static void removeOfAKeyThatIsNotThere() {
        for (int[] keys : STATES) {
            int n = keys.length;
            for (int near : n == 0 ? SOME : new int[] {keys[0], keys[n / 2], keys[n - 1]}) {
                for (int key : neighbours(near)) {
                    if (!has(keys, key)) {
                        leavesAsItWas(new int[][] {keys}, NONE, x -> x.remove(key));
                    }
                }
            }
        }
        Probe x = with(SOME);
        x.remove(0x1234).is(SOME.length - 1);
        x.remove(0x1234).is(NONE);
        x.holds(without(SOME, 0x1234, 0x1234));
    }

    private static void removeAnswersTheKeysLeft() {
        for (int[] keys : FULL_STATES) {
            Probe up = with(keys);
            Probe down = with(keys);
            for (int i = 0; i < 64; i++) {
                up.remove(keys[i]).is(63 - i);
                up.size().is(63 - i);
                down.remove(keys[63 - i]).is(63 - i);
                down.contains(keys[63 - i]).is(false);
            }
            up.holds();
            down.holds();
            Probe one = with(keys);
            one.remove(keys[40]).is(63);
            one.holds(without(keys, keys[40], keys[40]));
        }
    }

    // ---- Promise 4 ----

    private static void removeRangeWithLowOutside() {
        for (int low : NO_KEYS) {
            leavesAsItWas(STATES, BAD, x -> x.removeRange(low, 65535));
            leavesAsItWas(STATES, BAD, x -> x.removeRange(low, 0));
        }
    }

    private static void removeRangeWithHighOutside() {
        for (int high : NO_KEYS) {
            leavesAsItWas(STATES, BAD, x -> x.removeRange(0, high));
            leavesAsItWas(STATES, BAD, x -> x.removeRange(65535, high));
        }
    }

    private static void removeRangeWithBothOutside() {
        for (int low : NO_KEYS) {
            for (int high : NO_KEYS) {
                leavesAsItWas(new int[][] {EMPTY, SOME}, BAD, x -> x.removeRange(low, high));
            }
        }
    }

    private static void removeRangeTakesBothEnds() {
        for (int[] keys : STATES) {
            for (int i = 0; i < keys.length; i += 7) {
                for (int j = i; j < keys.length; j += 9) {
                    int low = keys[i];
                    int high = keys[j];
                    Probe x = with(keys);
                    x.removeRange(low, high).is(j - i + 1);
                    x.holds(without(keys, low, high));
                }
            }
        }
        for (int key : SOME) {
            Probe x = with(SOME);
            x.removeRange(key, key).is(1);
            x.holds(without(SOME, key, key));
        }
    }

    private static void removeRangeStopsShortOfTheNextKeys() {
        Probe x = with(0x1233, 0x1234, 0x1235, 0x1236);
        x.removeRange(0x1234, 0x1235).is(2);
        x.holds(0x1233, 0x1236);
        Probe y = with(0, 1, 65534, 65535);
        y.removeRange(1, 65534).is(2);
        y.holds(0, 65535);
    }

    private static void removeRangeOfAllAndOfNothing() {
        for (int[] keys : STATES) {
            Probe x = with(keys);
            x.removeRange(0, 65535).is(keys.length);
            x.holds();
            x.removeRange(0, 65535).is(0);
            x.put(0x4321, usualValue(0x4321)).is(1);
            x.holds(0x4321);
        }
        leavesAsItWas(STATES, 0, x -> x.removeRange(0x2000, 0x2001));
        leavesAsItWas(new int[][] {SOME}, 0, x -> x.removeRange(1, 0x1233));
        leavesAsItWas(new int[][] {SOME}, 0, x -> x.removeRange(0x5679, 65534));
        leavesAsItWas(new int[][] {SOME}, 0, x -> x.removeRange(0x1237, 0x123f));
    }

    private static void removeRangeWithLowGreaterThanHigh() {
        leavesAsItWas(STATES, 0, x -> x.removeRange(65535, 0));
        leavesAsItWas(STATES, 0, x -> x.removeRange(1, 0));
        leavesAsItWas(STATES, 0, x -> x.removeRange(65535, 65534));
        leavesAsItWas(STATES, 0, x -> x.removeRange(0x1235, 0x1234));
        leavesAsItWas(STATES, 0, x -> x.removeRange(0x1240, 0x1200));
    }

    // ---- Promises 5 to 7 ----

    private static void containsTellsNeighboursApart() {
        for (int[] keys : STATES) {
            Probe x = with(keys);
            for (int i = 0; i < keys.length; i += 5) {
                x.contains(keys[i]).is(true);
                for (int key : neighbours(keys[i])) {
                    x.contains(key).is(has(keys, key));
                }
            }
            x.holds(keys);
        }
    }

    private static void containsOutside() {
        for (int key : NO_KEYS) {
            leavesAsItWas(STATES, 0, x -> x.contains(key));
        }
    }

    private static void valueOfAKeyThatIsThere() {
        for (int value : VALUES) {
            for (int key : SOME) {
                Probe x = with(without(SOME, key, key));
                x.put(key, value).is(1);
                x.valueOf(key).is(value);
            }
        }
    }

    private static void valueOfAKeyThatIsNotThere() {
        for (int[] keys : STATES) {
            Probe x = with(keys);
            for (int i = 0; i < 64; i++) {
                int key = i * 1031 % 65536;
                if (!has(keys, key)) {
                    x.valueOf(key).is(0);
                }
            }
            x.holds(keys);
        }
        for (int key : NO_KEYS) {
            leavesAsItWas(STATES, 0, x -> x.valueOf(key));
        }
        Probe x = with(SOME);
        x.remove(0x1234).is(SOME.length - 1);
        x.valueOf(0x1234).is(0);
        x.removeRange(0, 65535).is(SOME.length - 1);
        x.valueOf(0).is(0);
        x.valueOf(65535).is(0);
    }

    private static void sizeFrom0To64AndBack() {
        for (int[] keys : FULL_STATES) {
            Probe x = new Probe();
            for (int i = 0; i < 64; i++) {
                x.size().is(i);
                x.put(keys[i], 0).is(1);
            }
            x.size().is(64);
            x.put(keys[5], 1).is(0);
            x.put(0x8001, 1).is(FULL);
            x.put(-1, 1).is(BAD);
            x.remove(0x8001).is(NONE);
            x.remove(65536).is(BAD);
            x.removeRange(-1, 65535).is(BAD);
            x.removeRange(65535, 0).is(0);
            x.size().is(64);
            for (int i = 0; i < 64; i++) {
                x.remove(keys[i]).is(63 - i);
                x.size().is(63 - i);
            }
        }
    }

    // ---- Promises 8 and 9 ----

    private static int firstAbove(int[] keys, int bound) {
        for (int key : keys) {
            if (key > bound) {
                return key;
            }
        }
        return NONE;
    }

    private static int lastBelow(int[] keys, int bound) {
        int last = NONE;
        for (int key : keys) {
            if (key < bound) {
                last = key;
            }
        }
        return last;
    }

    /** Each bound from a little under 0 to a little over 65535, on as many objects as that takes. */
    private static void everyBound(int[] keys, boolean upward) {
        for (int start = -300; start <= 65535 + 300; start += 400) {
            Probe x = with(keys);
            for (int bound = start; bound < start + 400; bound++) {
                if (upward) {
                    x.above(bound).is(firstAbove(keys, bound));
                } else {
                    x.below(bound).is(lastBelow(keys, bound));
                }
            }
        }
    }

    private static void aboveEveryBound() {
        for (int[] keys : STATES) {
            everyBound(keys, true);
        }
    }

    private static void aboveTheBoundItself() {
        Probe x = with(SOME);
        for (int i = 0; i + 1 < SOME.length; i++) {
            x.above(SOME[i]).is(SOME[i + 1]);
            x.above(SOME[i + 1] - 1).is(SOME[i + 1]);
        }
        x.holds(SOME);
    }

    private static void aboveAllKeys() {
        for (int[] keys : STATES) {
            Probe x = with(keys);
            if (keys.length > 0) {
                x.above(keys[keys.length - 1]).is(NONE);
            } else {
                x.above(-1).is(NONE);
                x.above(MIN).is(NONE);
            }
            x.above(65535).is(NONE);
            x.holds(keys);
        }
    }

    private static void aboveAnyInt() {
        for (int[] keys : STATES) {
            int least = keys.length == 0 ? NONE : keys[0];
            for (int bound : TOO_SMALL) {
                leavesAsItWas(new int[][] {keys}, least, x -> x.above(bound));
            }
            for (int bound : TOO_LARGE) {
                leavesAsItWas(new int[][] {keys}, NONE, x -> x.above(bound));
            }
        }
    }

    private static void belowEveryBound() {
        for (int[] keys : STATES) {
            everyBound(keys, false);
        }
    }

    private static void belowTheBoundItself() {
        Probe x = with(SOME);
        for (int i = 0; i + 1 < SOME.length; i++) {
            x.below(SOME[i + 1]).is(SOME[i]);
            x.below(SOME[i] + 1).is(SOME[i]);
        }
        x.holds(SOME);
    }

    private static void belowAllKeys() {
        for (int[] keys : STATES) {
            Probe x = with(keys);
            if (keys.length > 0) {
                x.below(keys[0]).is(NONE);
            } else {
                x.below(65536).is(NONE);
                x.below(MAX).is(NONE);
            }
            x.below(0).is(NONE);
            x.holds(keys);
        }
    }

    private static void belowAnyInt() {
        for (int[] keys : STATES) {
            int greatest = keys.length == 0 ? NONE : keys[keys.length - 1];
            for (int bound : TOO_SMALL) {
                leavesAsItWas(new int[][] {keys}, NONE, x -> x.below(bound));
            }
            for (int bound : TOO_LARGE) {
                leavesAsItWas(new int[][] {keys}, greatest, x -> x.below(bound));
            }
        }
    }

    // ---- Promise 10 ----

    private static void atRankOfTheOutermostKeys() {
        for (int[] keys : STATES) {
            if (keys.length > 0) {
                leavesAsItWas(new int[][] {keys}, keys[0], x -> x.atRank(0));
                leavesAsItWas(new int[][] {keys}, keys[keys.length - 1], x -> x.atRank(keys.length - 1));
            }
        }
    }

    private static void atRankTooSmall() {
        for (int rank : TOO_SMALL) {
            leavesAsItWas(STATES, NONE, x -> x.atRank(rank));
        }
    }

    private static void atRankTooLarge() {
        for (int[] keys : STATES) {
            for (int more : new int[] {0, 1, 2, 16, 64, 128, 256, 65535, 65536, 1 << 30}) {
                leavesAsItWas(new int[][] {keys}, NONE, x -> x.atRank(keys.length + more));
            }
        }
        for (int rank : TOO_LARGE) {
            leavesAsItWas(STATES, NONE, x -> x.atRank(rank));
        }
        Probe x = with(SOME);
        x.remove(65535).is(SOME.length - 1);
        x.atRank(SOME.length - 1).is(NONE);
        x.removeRange(0, 65535).is(SOME.length - 1);
        x.atRank(0).is(NONE);
    }

    // ---- Promise 11 ----

    private static void countRangeCountsBothEnds() {
        for (int[] keys : STATES) {
            Probe x = with(keys);
            for (int i = 0; i < keys.length; i += 7) {
                for (int j = i; j < keys.length; j += 9) {
                    x.countRange(keys[i], keys[j]).is(j - i + 1);
                    x.countRange(keys[i] + 1, keys[j]).is(j - i);
                    x.countRange(keys[i], keys[j] - 1).is(j - i);
                }
            }
        }
        Probe x = with(SOME);
        for (int key : SOME) {
            x.countRange(key, key).is(1);
        }
        x.countRange(0x1237, 0x123f).is(0);
        x.holds(SOME);
    }

    private static void countRangeOfAnyInts() {
        int[] ends = joined(NO_KEYS, new int[] {0, 1, 0x1234, 65534, 65535});
        for (int[] keys : STATES) {
            for (int low : ends) {
                Probe x = with(keys);
                for (int high : ends) {
                    x.countRange(low, high).is(countOf(keys, low, high));
                }
                x.holds(keys);
            }
        }
    }

    private static void countRangeOfAllInts() {
        for (int[] keys : STATES) {
            leavesAsItWas(new int[][] {keys}, keys.length, x -> x.countRange(MIN, MAX));
            leavesAsItWas(new int[][] {keys}, keys.length, x -> x.countRange(0, 65535));
            leavesAsItWas(new int[][] {keys}, keys.length, x -> x.countRange(0, MAX));
            leavesAsItWas(new int[][] {keys}, keys.length, x -> x.countRange(MIN, 65535));
        }
        leavesAsItWas(STATES, 0, x -> x.countRange(MIN, -1));
        leavesAsItWas(STATES, 0, x -> x.countRange(MIN, MIN));
        leavesAsItWas(STATES, 0, x -> x.countRange(65536, MAX));
        leavesAsItWas(STATES, 0, x -> x.countRange(MAX, MAX));
    }

    private static void countRangeWithLowGreaterThanHigh() {
        leavesAsItWas(STATES, 0, x -> x.countRange(MAX, MIN));
        leavesAsItWas(STATES, 0, x -> x.countRange(65535, 0));
        leavesAsItWas(STATES, 0, x -> x.countRange(65536, -1));
        leavesAsItWas(STATES, 0, x -> x.countRange(1, 0));
        leavesAsItWas(STATES, 0, x -> x.countRange(0, -1));
        leavesAsItWas(STATES, 0, x -> x.countRange(65536, 65535));
        leavesAsItWas(STATES, 0, x -> x.countRange(0, MIN));
        leavesAsItWas(STATES, 0, x -> x.countRange(MAX, 65535));
        leavesAsItWas(STATES, 0, x -> x.countRange(0x1235, 0x1234));
        // With two keys or more between the ends a plain difference of ranks falls below 0.
        leavesAsItWas(STATES, 0, x -> x.countRange(0x1240, 0x1200));
    }

    // ---- Promises 12 and 14 ----

    private static void sharedDigitsIsTheGreatestNumber() {
        Probe x = with(0x1234, 0x1239, 0x12f0, 0x1fff, 0x9000);
        x.sharedDigits(0x1238).is(3);
        x.sharedDigits(0x1248).is(2);
        x.sharedDigits(0x1348).is(1);
        x.sharedDigits(0x1ffe).is(3);
        x.sharedDigits(0x9fff).is(1);
        x.sharedDigits(0x9000).is(4);
        x.sharedDigits(0x8000).is(0);
        x.sharedDigits(0).is(0);
        x.sharedDigits(65535).is(0);
        x.remove(0x1239).is(4);
        x.sharedDigits(0x1239).is(3);
        x.remove(0x1234).is(3);
        x.sharedDigits(0x1239).is(2);
        x.remove(0x12f0).is(2);
        x.sharedDigits(0x1239).is(1);
        x.remove(0x1fff).is(1);
        x.sharedDigits(0x1239).is(0);
        x.remove(0x9000).is(0);
        x.sharedDigits(0x1239).is(NONE);
    }

    private static void sharedDigitsOfAKeyThatIsThere() {
        for (int[] keys : STATES) {
            Probe x = with(keys);
            for (int key : keys) {
                x.sharedDigits(key).is(4);
            }
            x.holds(keys);
        }
    }

    private static void sharedDigitsInTheEmptyIndex() {
        for (int key : new int[] {0, 1, 0x1234, 65534, 65535}) {
            leavesAsItWas(new int[][] {EMPTY}, NONE, x -> x.sharedDigits(key));
            Probe x = with(key);
            x.remove(key).is(0);
            x.sharedDigits(key).is(NONE);
            Probe y = with(SOME);
            y.removeRange(0, 65535).is(SOME.length);
            y.sharedDigits(key).is(NONE);
        }
    }

    private static void sharedDigitsOfATooSmallKey() {
        for (int key : TOO_SMALL) {
            leavesAsItWas(STATES, BAD, x -> x.sharedDigits(key));
        }
    }

    private static void sharedDigitsOfATooLargeKey() {
        for (int key : TOO_LARGE) {
            leavesAsItWas(STATES, BAD, x -> x.sharedDigits(key));
        }
    }

    private static void sharedDigitsTestsBadBeforeNone() {
        for (int key : NO_KEYS) {
            new Probe().sharedDigits(key).is(BAD);
            Probe x = with(0x1234);
            x.remove(0x1234).is(0);
            x.sharedDigits(key).is(BAD);
        }
    }

    // ---- Promise 13 ----

    private static long sumOf(int[] keys, int key, int d) {
        long sum = 0;
        for (int held : keys) {
            if (held / powerOf16(4 - d) == key / powerOf16(4 - d)) {
                sum += usualValue(held);
            }
        }
        return sum;
    }

    private static int powerOf16(int n) {
        int power = 1;
        for (int i = 0; i < n; i++) {
            power *= 16;
        }
        return power;
    }

    private static void sumUnderEachNumberOfDigits() {
        for (int[] keys : STATES) {
            for (int base : keys.length == 0 ? SOME : keys) {
                Probe x = with(keys);
                for (int key : joined(new int[] {base}, neighbours(base))) {
                    for (int d = 0; d <= 4; d++) {
                        x.sumUnder(key, d).is(sumOf(keys, key, d));
                    }
                }
                x.holds(keys);
            }
        }
    }

    private static void sumUnderNoDigitsIsTheSumOfAll() {
        for (int[] keys : STATES) {
            for (int key : new int[] {0, 0x1234, 0x8000, 65535}) {
                leavesAsItWas(new int[][] {keys}, sumOf(keys, 0, 0), x -> x.sumUnder(key, 0));
            }
        }
    }

    private static void sumUnderIsALong() {
        for (int value : VALUES) {
            for (int[] keys : FULL_STATES) {
                Probe x = new Probe();
                for (int key : keys) {
                    x.put(key, value).is(1);
                }
                x.sumUnder(0, 0).is(64L * value);
                x.sumUnder(keys[0], 4).is(value);
                x.remove(keys[63]).is(63);
                x.sumUnder(0, 0).is(63L * value);
                x.removeRange(keys[0], keys[60]).is(61);
                x.sumUnder(0, 0).is(2L * value);
            }
            Probe two = new Probe();
            two.put(0x1234, value).is(1);
            two.put(0x1235, value).is(1);
            two.sumUnder(0x1230, 3).is(2L * value);
        }
    }

    private static void sumUnderDOutside() {
        for (int d : NO_DIGIT_COUNTS) {
            leavesAsItWas(STATES, 0, x -> x.sumUnder(0, d));
            leavesAsItWas(STATES, 0, x -> x.sumUnder(0x1234, d));
            leavesAsItWas(STATES, 0, x -> x.sumUnder(65535, d));
        }
    }

    private static void sumUnderKeyOutside() {
        for (int key : NO_KEYS) {
            for (int d = 0; d <= 4; d++) {
                int digits = d;
                leavesAsItWas(STATES, 0, x -> x.sumUnder(key, digits));
            }
        }
    }

    private static void sumUnderBothOutside() {
        for (int key : NO_KEYS) {
            for (int d : NO_DIGIT_COUNTS) {
                leavesAsItWas(new int[][] {EMPTY, SOME}, 0, x -> x.sumUnder(key, d));
            }
        }
    }

    private static void test(String where, String words, Runnable boundary) {
        sentence = where + ", \"" + words + "\"";
        sentences++;
        wrongHere = 0;
        boundary.run();
    }

    private static void terms() {
        test("What it is", "at most 512 calls", BoundaryTests::all512CallsAreAnswered);
        test("What it is", "at most 512 calls (all of them changes)", BoundaryTests::all512ChangesAreMade);
        test("Terms", "up to 64 KEYS", BoundaryTests::upTo64KeysAreHeld);
        test("Terms", "each a number from 0 to 65535", BoundaryTests::everyNumberFrom0To65535IsAKey);
        test("Terms", "a value, which is any int", BoundaryTests::everyIntIsAValue);
        test("Terms", "No key is in it twice", BoundaryTests::noKeyIsInItTwice);
        test("Terms", "in the index that are smaller", BoundaryTests::theRankIsTheNumberOfSmallerKeys);
        test("Terms", "unless d is 4, their next digits differ", BoundaryTests::keysShareTheirFirstDigitsAlone);
        test("Promise 1", "The empty index", BoundaryTests::aNewObjectIsEmpty);
        test("Promise 1", "The empty index (beside a full one)", BoundaryTests::objectsAreApart);
    }

    private static void changes() {
        test("Promise 2", "key outside 0..65535: BAD (too small)", BoundaryTests::putOfATooSmallKey);
        test("Promise 2", "key outside 0..65535: BAD (too large)", BoundaryTests::putOfATooLargeKey);
        test("Promise 2", "Tested in this order (BAD first)", BoundaryTests::putTestsBadBeforeTheOthers);
        test("Promise 2", "Tested in this order (there, then FULL)", BoundaryTests::putTestsThereAlreadyBeforeFull);
        test("Promise 2", "its value is replaced and 0 is answered", BoundaryTests::putReplacesTheValue);
        test("Promise 2", "64 keys are there: FULL", BoundaryTests::putAnswersFullAt64Keys);
        test("Promise 2", "64 keys are there: FULL (and then no longer)", BoundaryTests::putFillsAFreedPlace);
        test("Promise 2", "Else the key is added and 1 is answered", BoundaryTests::putAddsTheFirstAndTheLastKey);
        test("Promise 2", "Else the key is added (in any order)", BoundaryTests::putInAnyOrder);
        test("Promise 3", "key outside 0..65535: BAD (too small)", BoundaryTests::removeOfATooSmallKey);
        test("Promise 3", "key outside 0..65535: BAD (too large)", BoundaryTests::removeOfATooLargeKey);
        test("Promise 3", "The key isn't there: NONE", BoundaryTests::removeOfAKeyThatIsNotThere);
        test("Promise 3", "Else answers the number of keys that are left", BoundaryTests::removeAnswersTheKeysLeft);
        test("Promise 4", "low or high outside 0..65535: BAD (low)", BoundaryTests::removeRangeWithLowOutside);
        test("Promise 4", "low or high outside 0..65535: BAD (high)", BoundaryTests::removeRangeWithHighOutside);
        test("Promise 4", "low or high outside 0..65535: BAD (both)", BoundaryTests::removeRangeWithBothOutside);
        test("Promise 4", "from low to high (both included)", BoundaryTests::removeRangeTakesBothEnds);
        test("Promise 4", "from low to high (no further)", BoundaryTests::removeRangeStopsShortOfTheNextKeys);
        test("Promise 4", "Else answers the number of keys taken out", BoundaryTests::removeRangeOfAllAndOfNothing);
        test("Promise 4", "0 if low > high", BoundaryTests::removeRangeWithLowGreaterThanHigh);
    }

    private static void questions() {
        test("Promise 5", "Whether a key is there", BoundaryTests::containsTellsNeighboursApart);
        test("Promise 5", "false for numbers outside 0..65535", BoundaryTests::containsOutside);
        test("Promise 6", "The value of a key", BoundaryTests::valueOfAKeyThatIsThere);
        test("Promise 6", "0 if it is not there", BoundaryTests::valueOfAKeyThatIsNotThere);
        test("Promise 7", "The number of keys", BoundaryTests::sizeFrom0To64AndBack);
        test("Promise 8", "The smallest key that is greater", BoundaryTests::aboveEveryBound);
        test("Promise 8", "greater than bound (not bound itself)", BoundaryTests::aboveTheBoundItself);
        test("Promise 8", "NONE if there is none", BoundaryTests::aboveAllKeys);
        test("Promise 8", "bound is any int", BoundaryTests::aboveAnyInt);
        test("Promise 9", "The greatest key that is smaller", BoundaryTests::belowEveryBound);
        test("Promise 9", "smaller than bound (not bound itself)", BoundaryTests::belowTheBoundItself);
        test("Promise 9", "NONE if there is none", BoundaryTests::belowAllKeys);
        test("Promise 9", "bound is any int", BoundaryTests::belowAnyInt);
        test("Promise 10", "The key of a rank", BoundaryTests::atRankOfTheOutermostKeys);
        test("Promise 10", "NONE if there is none (rank too small)", BoundaryTests::atRankTooSmall);
        test("Promise 10", "NONE if there is none (rank too large)", BoundaryTests::atRankTooLarge);
        test("Promise 11", "both included", BoundaryTests::countRangeCountsBothEnds);
        test("Promise 11", "any ints", BoundaryTests::countRangeOfAnyInts);
        test("Promise 11", "any ints (the smallest and the greatest)", BoundaryTests::countRangeOfAllInts);
        test("Promise 11", "0 if low > high", BoundaryTests::countRangeWithLowGreaterThanHigh);
    }

    private static void digits() {
        test("Promise 12", "The greatest number of digits", BoundaryTests::sharedDigitsIsTheGreatestNumber);
        test("Promise 12", "4 if the key is there", BoundaryTests::sharedDigitsOfAKeyThatIsThere);
        test("Promise 12", "NONE if the index is empty", BoundaryTests::sharedDigitsInTheEmptyIndex);
        test("Promise 12", "BAD for key outside 0..65535 (too small)", BoundaryTests::sharedDigitsOfATooSmallKey);
        test("Promise 12", "BAD for key outside 0..65535 (too large)", BoundaryTests::sharedDigitsOfATooLargeKey);
        test("Promise 13", "d from 0 to 4", BoundaryTests::sumUnderEachNumberOfDigits);
        test("Promise 13", "d from 0 to 4 (no digits)", BoundaryTests::sumUnderNoDigitsIsTheSumOfAll);
        test("Promise 13", "as a long", BoundaryTests::sumUnderIsALong);
        test("Promise 13", "0 for d outside 0..4", BoundaryTests::sumUnderDOutside);
        test("Promise 13", "or key outside 0..65535", BoundaryTests::sumUnderKeyOutside);
        test("Promise 13", "0 for d outside 0..4 or key outside 0..65535", BoundaryTests::sumUnderBothOutside);
        test("Promise 14", "BAD is tested before NONE", BoundaryTests::sharedDigitsTestsBadBeforeNone);
    }

    public static void main(String[] args) {
        terms();
        changes();
        questions();
        digits();
        if (wrong != 0) {
            System.out.println(wrong + " answers are not as due");
            System.exit(1);
        }
        System.out.println("all " + sentences + " boundary cases hold");
    }
}
