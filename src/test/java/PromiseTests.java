/** Each promise of the document by its number: ordinary inputs, named edges, wrong inputs. */
public final class PromiseTests {
    private static final int BAD = -1;
    private static final int FULL = -2;
    private static final int NONE = -3;
    private static final int MIN = Integer.MIN_VALUE;
    private static final int MAX = Integer.MAX_VALUE;
    private static final int[] NO_KEYS = {-1, 65536, 65536 + 0x1234, 0x1234 - 65536, MIN, MAX};

    private static int wrong = 0;

    private static void due(int promise, String call, long got, long want) {
        if (got != want) {
            wrong++;
            System.out.println("promise " + promise + ": " + call + " answered " + got + ", due is " + want);
        }
    }

    private static void due(int promise, String call, boolean got, boolean want) {
        due(promise, call, got ? 1L : 0L, want ? 1L : 0L);
    }

    /** Keys with the values 1, 2, 3, .. in the order in which they are given. */
    private static ArtIndex with(int... keys) {
        ArtIndex x = new ArtIndex();
        int value = 0;
        for (int key : keys) {
            value++;
            due(2, "put(" + key + ", " + value + ")", x.put(key, value), 1);
        }
        return x;
    }

    private static ArtIndex full() {
        int[] keys = new int[64];
        for (int i = 0; i < 64; i++) {
            keys[i] = i * 1000;
        }
        return with(keys);
    }

    /** The index holds just these keys, which are given in their order, with these values. */
    private static void holds(int promise, String when, ArtIndex x, int[] keys, int[] values) {
        due(promise, when + ": size()", x.size(), keys.length);
        long sum = 0;
        for (int i = 0; i < keys.length; i++) {
            due(promise, when + ": atRank(" + i + ")", x.atRank(i), keys[i]);
            due(promise, when + ": contains(" + keys[i] + ")", x.contains(keys[i]), true);
            due(promise, when + ": valueOf(" + keys[i] + ")", x.valueOf(keys[i]), values[i]);
            sum += values[i];
        }
        due(promise, when + ": sumUnder(0, 0)", x.sumUnder(0, 0), sum);
    }

    private static int[] list(int... numbers) {
        return numbers;
    }

    private static void promise1() {
        holds(1, "new object", new ArtIndex(), list(), list());
        ArtIndex x = new ArtIndex();
        due(1, "contains(0)", x.contains(0), false);
        due(1, "valueOf(0)", x.valueOf(0), 0);
        due(1, "above(MIN)", x.above(MIN), NONE);
        due(1, "below(MAX)", x.below(MAX), NONE);
        due(1, "atRank(0)", x.atRank(0), NONE);
        due(1, "countRange(MIN, MAX)", x.countRange(MIN, MAX), 0);
        due(1, "sharedDigits(0)", x.sharedDigits(0), NONE);
        due(1, "remove(0)", x.remove(0), NONE);
        due(1, "removeRange(0, 65535)", x.removeRange(0, 65535), 0);
        ArtIndex y = with(5);
        due(1, "another object's size()", x.size(), 0);
        due(1, "its own size()", y.size(), 1);
        due(1, "BAD", ArtIndex.BAD, BAD);
        due(1, "FULL", ArtIndex.FULL, FULL);
        due(1, "NONE", ArtIndex.NONE, NONE);
    }

    private static void promise2() {
        ArtIndex x = new ArtIndex();
        due(2, "put(0, MIN)", x.put(0, MIN), 1);
        due(2, "put(65535, MAX)", x.put(65535, MAX), 1);
        due(2, "put(0x8000, 0)", x.put(0x8000, 0), 1);
        due(2, "put(0x8000, 0) again", x.put(0x8000, 0), 0);
        holds(2, "three keys", x, list(0, 0x8000, 65535), list(MIN, 0, MAX));
        due(2, "put(0, MAX)", x.put(0, MAX), 0);
        due(2, "put(65535, MIN)", x.put(65535, MIN), 0);
        for (int key : NO_KEYS) {
            due(2, "put(" + key + ", 1)", x.put(key, 1), BAD);
        }
        holds(2, "values replaced", x, list(0, 0x8000, 65535), list(MAX, 0, MIN));

        ArtIndex f = full();
        due(2, "65th put", f.put(1, 7), FULL);
        due(2, "full, key there", f.put(63000, -7), 0);
        due(2, "full, wrong key", f.put(-1, 7), BAD);
        due(2, "full, wrong key", f.put(65536, 7), BAD);
        due(2, "full, contains(1)", f.contains(1), false);
        due(2, "full, valueOf(63000)", f.valueOf(63000), -7);
        due(2, "full, size()", f.size(), 64);
        due(2, "full, sumUnder(0, 0)", f.sumUnder(0, 0), 2080 - 64 - 7);
        due(2, "remove(1000)", f.remove(1000), 63);
        due(2, "put after remove", f.put(1, 7), 1);
        due(2, "full again", f.put(1000, 7), FULL);
    }

    private static void promise3() {
        ArtIndex x = with(0, 65535, 0x1234, 0x1235);
        for (int key : NO_KEYS) {
            due(3, "remove(" + key + ")", x.remove(key), BAD);
        }
        due(3, "remove(1)", x.remove(1), NONE);
        due(3, "remove(0x1236)", x.remove(0x1236), NONE);
        due(3, "remove(0x2234)", x.remove(0x2234), NONE);
        holds(3, "nothing removed", x, list(0, 0x1234, 0x1235, 65535), list(1, 3, 4, 2));
        due(3, "remove(0x1234)", x.remove(0x1234), 3);
        due(3, "remove(0x1234) again", x.remove(0x1234), NONE);
        holds(3, "one removed", x, list(0, 0x1235, 65535), list(1, 4, 2));
        due(3, "remove(0)", x.remove(0), 2);
        due(3, "remove(65535)", x.remove(65535), 1);
        due(3, "remove(0x1235)", x.remove(0x1235), 0);
        holds(3, "all removed", x, list(), list());
        due(3, "remove(0x1235)", x.remove(0x1235), NONE);
        due(3, "put(0x1235, 8)", x.put(0x1235, 8), 1);
        holds(3, "put again", x, list(0x1235), list(8));
    }

    /** A branch that takes all sixteen children, one by one, and gives them back. */
    private static void everyBranchSize() {
        for (int place = 0; place < 16; place += 4) {
            ArtIndex x = new ArtIndex();
            for (int i = 0; i < 16; i++) {
                int digit = i * 7 % 16;
                due(2, "put at digit " + digit, x.put(digit << place, digit + 1), 1);
                due(2, "sum with digit " + digit, x.valueOf(digit << place), digit + 1);
            }
            for (int i = 0; i < 16; i++) {
                due(10, "atRank(" + i + ")", x.atRank(i), i << place);
                due(13, "sumUnder(digit " + i + ")", x.sumUnder(i << place, 4 - place / 4), i + 1);
            }
            for (int i = 0; i < 16; i++) {
                int digit = i * 5 % 16;
                due(3, "remove digit " + digit, x.remove(digit << place), 15 - i);
                due(5, "contains after remove", x.contains(digit << place), false);
                for (int j = i + 1; j < 16; j++) {
                    int other = j * 5 % 16;
                    due(6, "valueOf left digit " + other, x.valueOf(other << place), other + 1);
                }
            }
            due(7, "size() at the end", x.size(), 0);
        }
    }

    /** As many branches of five or more children as 64 keys allow, made and taken down twice. */
    private static void mostWideBranches() {
        ArtIndex x = new ArtIndex();
        for (int round = 0; round < 2; round++) {
            int n = 0;
            for (int a = 0; a < 5; a++) {
                for (int b = 0; b < 5; b++) {
                    int wide = a * 5 + b < 9 ? 5 : 1;
                    for (int c = 0; c < wide; c++) {
                        n++;
                        due(2, "put of key " + n, x.put((a << 12) + (b << 8) + (c << 4), n), 1);
                    }
                }
            }
            due(7, "size() of wide branches", x.size(), 61);
            due(13, "sumUnder(0x0100, 2)", x.sumUnder(0x0100, 2), 6 + 7 + 8 + 9 + 10);
            due(13, "sumUnder(0x1000, 1)", x.sumUnder(0x1000, 1), 1081 - 325);
            due(10, "atRank(60)", x.atRank(60), 0x4400);
            due(4, "removeRange of all", x.removeRange(0, 65535), 61);
            due(7, "size() of nothing", x.size(), 0);
        }
    }

    private static void promise4() {
        for (int key : NO_KEYS) {
            ArtIndex x = with(0, 0x1234, 65535);
            due(4, "removeRange(" + key + ", 65535)", x.removeRange(key, 65535), BAD);
            due(4, "removeRange(0, " + key + ")", x.removeRange(0, key), BAD);
            due(4, "removeRange(65535, " + key + ")", x.removeRange(65535, key), BAD);
            due(4, "removeRange(" + key + ", 0)", x.removeRange(key, 0), BAD);
            due(4, "removeRange(" + key + ", same)", x.removeRange(key, key), BAD);
            holds(4, "wrong range", x, list(0, 0x1234, 65535), list(1, 2, 3));
        }
        ArtIndex x = with(10, 11, 20, 30, 31, 40, 0, 65535);
        due(4, "removeRange(31, 30)", x.removeRange(31, 30), 0);
        due(4, "removeRange(65535, 0)", x.removeRange(65535, 0), 0);
        due(4, "removeRange(12, 19)", x.removeRange(12, 19), 0);
        holds(4, "nothing taken", x, list(0, 10, 11, 20, 30, 31, 40, 65535), list(7, 1, 2, 3, 4, 5, 6, 8));
        due(4, "removeRange(11, 30)", x.removeRange(11, 30), 3);
        holds(4, "both ends taken", x, list(0, 10, 31, 40, 65535), list(7, 1, 5, 6, 8));
        due(4, "removeRange(40, 40)", x.removeRange(40, 40), 1);
        due(4, "removeRange(0, 0)", x.removeRange(0, 0), 1);
        due(4, "removeRange(65535, 65535)", x.removeRange(65535, 65535), 1);
        holds(4, "single keys taken", x, list(10, 31), list(1, 5));
        due(4, "removeRange(0, 65535)", x.removeRange(0, 65535), 2);
        holds(4, "all taken", x, list(), list());
        ArtIndex f = full();
        due(4, "full, removeRange(1, 63000)", f.removeRange(1, 63000), 63);
        holds(4, "one left", f, list(0), list(1));
        due(4, "last, removeRange(0, 65535)", f.removeRange(0, 65535), 1);
        ArtIndex g = full();
        due(4, "full, removeRange(0, 65535)", g.removeRange(0, 65535), 64);
        holds(4, "none left", g, list(), list());
    }

    private static void promise5() {
        ArtIndex x = with(0, 0x1234, 65535);
        due(5, "contains(0)", x.contains(0), true);
        due(5, "contains(0x1234)", x.contains(0x1234), true);
        due(5, "contains(65535)", x.contains(65535), true);
        due(5, "contains(1)", x.contains(1), false);
        due(5, "contains(0x1235)", x.contains(0x1235), false);
        due(5, "contains(0x1334)", x.contains(0x1334), false);
        due(5, "contains(0x1200)", x.contains(0x1200), false);
        for (int key : NO_KEYS) {
            due(5, "contains(" + key + ")", x.contains(key), false);
        }
        x.remove(0);
        due(5, "contains(0) after remove", x.contains(0), false);
    }

    private static void promise6() {
        ArtIndex x = new ArtIndex();
        x.put(0, MIN);
        x.put(0x1234, 77);
        x.put(65535, MAX);
        due(6, "valueOf(0)", x.valueOf(0), MIN);
        due(6, "valueOf(0x1234)", x.valueOf(0x1234), 77);
        due(6, "valueOf(65535)", x.valueOf(65535), MAX);
        due(6, "valueOf(0x1235)", x.valueOf(0x1235), 0);
        due(6, "valueOf(0x0234)", x.valueOf(0x0234), 0);
        for (int key : NO_KEYS) {
            due(6, "valueOf(" + key + ")", x.valueOf(key), 0);
        }
        x.put(0x1234, -78);
        due(6, "valueOf(0x1234) replaced", x.valueOf(0x1234), -78);
        x.remove(0x1234);
        due(6, "valueOf(0x1234) removed", x.valueOf(0x1234), 0);
        x.put(0x1234, 5);
        due(6, "valueOf(0x1234) put again", x.valueOf(0x1234), 5);
    }

    private static void promise7() {
        ArtIndex x = new ArtIndex();
        for (int i = 0; i < 64; i++) {
            due(7, "size() at " + i, x.size(), i);
            x.put(i * 1021, 0);
        }
        due(7, "size() full", x.size(), 64);
        x.put(1, 1);
        x.put(1021, 1);
        x.put(-1, 1);
        x.remove(2);
        due(7, "size() unchanged", x.size(), 64);
        x.remove(1021);
        due(7, "size() after remove", x.size(), 63);
        x.removeRange(0, 10 * 1021);
        due(7, "size() after removeRange", x.size(), 53);
    }

    private static void promise8() {
        ArtIndex x = with(0, 0x1234, 0x1240, 65535);
        due(8, "above(MIN)", x.above(MIN), 0);
        due(8, "above(-1)", x.above(-1), 0);
        due(8, "above(0)", x.above(0), 0x1234);
        due(8, "above(0x1233)", x.above(0x1233), 0x1234);
        due(8, "above(0x1234)", x.above(0x1234), 0x1240);
        due(8, "above(0x123f)", x.above(0x123f), 0x1240);
        due(8, "above(0x1240)", x.above(0x1240), 65535);
        due(8, "above(65534)", x.above(65534), 65535);
        due(8, "above(65535)", x.above(65535), NONE);
        due(8, "above(65536)", x.above(65536), NONE);
        due(8, "above(MAX)", x.above(MAX), NONE);
    }

    private static void promise9() {
        ArtIndex x = with(0, 0x1234, 0x1240, 65535);
        due(9, "below(MAX)", x.below(MAX), 65535);
        due(9, "below(65536)", x.below(65536), 65535);
        due(9, "below(65535)", x.below(65535), 0x1240);
        due(9, "below(0x1241)", x.below(0x1241), 0x1240);
        due(9, "below(0x1240)", x.below(0x1240), 0x1234);
        due(9, "below(0x1235)", x.below(0x1235), 0x1234);
        due(9, "below(0x1234)", x.below(0x1234), 0);
        due(9, "below(1)", x.below(1), 0);
        due(9, "below(0)", x.below(0), NONE);
        due(9, "below(-1)", x.below(-1), NONE);
        due(9, "below(MIN)", x.below(MIN), NONE);
    }

    private static void promise10() {
        ArtIndex x = with(65535, 0x1240, 0x1234, 0);
        due(10, "atRank(MIN)", x.atRank(MIN), NONE);
        due(10, "atRank(-1)", x.atRank(-1), NONE);
        due(10, "atRank(0)", x.atRank(0), 0);
        due(10, "atRank(1)", x.atRank(1), 0x1234);
        due(10, "atRank(2)", x.atRank(2), 0x1240);
        due(10, "atRank(3)", x.atRank(3), 65535);
        due(10, "atRank(4)", x.atRank(4), NONE);
        due(10, "atRank(MAX)", x.atRank(MAX), NONE);
        ArtIndex f = full();
        for (int i = 0; i < 64; i++) {
            due(10, "full, atRank(" + i + ")", f.atRank(i), i * 1000);
        }
        due(10, "full, atRank(64)", f.atRank(64), NONE);
    }

    private static void promise11() {
        ArtIndex x = with(0, 0x1234, 0x1235, 0x1240, 65535);
        due(11, "countRange(MIN, MAX)", x.countRange(MIN, MAX), 5);
        due(11, "countRange(0, 65535)", x.countRange(0, 65535), 5);
        due(11, "countRange(1, 65534)", x.countRange(1, 65534), 3);
        due(11, "countRange(0x1234, 0x1240)", x.countRange(0x1234, 0x1240), 3);
        due(11, "countRange(0x1235, 0x123f)", x.countRange(0x1235, 0x123f), 1);
        due(11, "countRange(0x1236, 0x123f)", x.countRange(0x1236, 0x123f), 0);
        due(11, "countRange(0, 0)", x.countRange(0, 0), 1);
        due(11, "countRange(65535, 65535)", x.countRange(65535, 65535), 1);
        due(11, "countRange(MIN, -1)", x.countRange(MIN, -1), 0);
        due(11, "countRange(MIN, 0)", x.countRange(MIN, 0), 1);
        due(11, "countRange(65536, MAX)", x.countRange(65536, MAX), 0);
        due(11, "countRange(65535, MAX)", x.countRange(65535, MAX), 1);
        due(11, "countRange(MIN, MIN)", x.countRange(MIN, MIN), 0);
        due(11, "countRange(MAX, MAX)", x.countRange(MAX, MAX), 0);
        due(11, "countRange(MAX, MIN)", x.countRange(MAX, MIN), 0);
        due(11, "countRange(0x1235, 0x1234)", x.countRange(0x1235, 0x1234), 0);
        due(11, "countRange(65535, 0)", x.countRange(65535, 0), 0);
    }

    private static void promise12() {
        ArtIndex x = with(0x1234, 0x1299, 0xabcd);
        due(12, "sharedDigits(0x1234)", x.sharedDigits(0x1234), 4);
        due(12, "sharedDigits(0xabcd)", x.sharedDigits(0xabcd), 4);
        due(12, "sharedDigits(0x1235)", x.sharedDigits(0x1235), 3);
        due(12, "sharedDigits(0x1290)", x.sharedDigits(0x1290), 3);
        due(12, "sharedDigits(0x12a4)", x.sharedDigits(0x12a4), 2);
        due(12, "sharedDigits(0x1334)", x.sharedDigits(0x1334), 1);
        due(12, "sharedDigits(0x2234)", x.sharedDigits(0x2234), 0);
        due(12, "sharedDigits(0xabdd)", x.sharedDigits(0xabdd), 2);
        due(12, "sharedDigits(0xa000)", x.sharedDigits(0xa000), 1);
        due(12, "sharedDigits(0)", x.sharedDigits(0), 0);
        due(12, "sharedDigits(65535)", x.sharedDigits(65535), 0);
        for (int key : NO_KEYS) {
            due(12, "sharedDigits(" + key + ")", x.sharedDigits(key), BAD);
        }
        ArtIndex one = with(0);
        due(12, "one key, sharedDigits(0)", one.sharedDigits(0), 4);
        due(12, "one key, sharedDigits(1)", one.sharedDigits(1), 3);
        due(12, "one key, sharedDigits(0x10)", one.sharedDigits(0x10), 2);
        due(12, "one key, sharedDigits(0x100)", one.sharedDigits(0x100), 1);
        due(12, "one key, sharedDigits(0x1000)", one.sharedDigits(0x1000), 0);
        due(12, "one key, sharedDigits(0x1001)", one.sharedDigits(0x1001), 0);
        one.remove(0);
        due(12, "empty, sharedDigits(0)", one.sharedDigits(0), NONE);
        due(12, "empty, sharedDigits(65535)", one.sharedDigits(65535), NONE);
    }

    private static void promise13() {
        ArtIndex x = new ArtIndex();
        x.put(0x1234, 1);
        x.put(0x1235, 10);
        x.put(0x1244, 100);
        x.put(0x1334, 1000);
        x.put(0x2234, 10000);
        due(13, "sumUnder(0x1234, 4)", x.sumUnder(0x1234, 4), 1);
        due(13, "sumUnder(0x1234, 3)", x.sumUnder(0x1234, 3), 11);
        due(13, "sumUnder(0x1234, 2)", x.sumUnder(0x1234, 2), 111);
        due(13, "sumUnder(0x1234, 1)", x.sumUnder(0x1234, 1), 1111);
        due(13, "sumUnder(0x1234, 0)", x.sumUnder(0x1234, 0), 11111);
        due(13, "sumUnder(0xffff, 0)", x.sumUnder(0xffff, 0), 11111);
        due(13, "sumUnder(0x1fff, 1)", x.sumUnder(0x1fff, 1), 1111);
        due(13, "sumUnder(0x12ff, 2)", x.sumUnder(0x12ff, 2), 111);
        due(13, "sumUnder(0x123f, 3)", x.sumUnder(0x123f, 3), 11);
        due(13, "sumUnder(0x123f, 4)", x.sumUnder(0x123f, 4), 0);
        due(13, "sumUnder(0x125f, 3)", x.sumUnder(0x125f, 3), 0);
        due(13, "sumUnder(0x1434, 2)", x.sumUnder(0x1434, 2), 0);
        due(13, "sumUnder(0x3234, 1)", x.sumUnder(0x3234, 1), 0);
        due(13, "sumUnder(0x2200, 2)", x.sumUnder(0x2200, 2), 10000);
        due(13, "sumUnder(0x2300, 2)", x.sumUnder(0x2300, 2), 0);
        for (int d : list(-1, 5, MIN, MAX)) {
            due(13, "sumUnder(0x1234, " + d + ")", x.sumUnder(0x1234, d), 0);
        }
        for (int key : NO_KEYS) {
            for (int d = -1; d <= 5; d++) {
                due(13, "sumUnder(" + key + ", " + d + ")", x.sumUnder(key, d), 0);
            }
        }
        for (int d = 0; d <= 4; d++) {
            due(13, "empty, sumUnder(0, " + d + ")", new ArtIndex().sumUnder(0, d), 0);
        }
        sumsBeyondInt(MAX);
        sumsBeyondInt(MIN);
    }

    private static void sumsBeyondInt(int value) {
        ArtIndex x = new ArtIndex();
        for (int i = 0; i < 64; i++) {
            x.put(0x1200 + i, value);
        }
        due(13, "64 values, d = 2", x.sumUnder(0x1200, 2), 64L * value);
        due(13, "16 values, d = 3", x.sumUnder(0x1210, 3), 16L * value);
        x.put(0x1210, 0);
        due(13, "15 values, d = 3", x.sumUnder(0x1210, 3), 15L * value);
        x.remove(0x1211);
        due(13, "14 values, d = 3", x.sumUnder(0x1210, 3), 14L * value);
        x.removeRange(0x1200, 0x123e);
        due(13, "1 value, d = 0", x.sumUnder(0, 0), value);
    }

    private static void promise14() {
        ArtIndex x = new ArtIndex();
        for (int key : NO_KEYS) {
            due(14, "empty, sharedDigits(" + key + ")", x.sharedDigits(key), BAD);
        }
        due(14, "empty, sharedDigits(0)", x.sharedDigits(0), NONE);
        due(14, "empty, remove(-1)", x.remove(-1), BAD);
        due(14, "empty, removeRange(-1, -2)", x.removeRange(-1, -2), BAD);
        callsUpToTheLimit();
    }

    /** The 512th call still answers as the first one would. */
    private static void callsUpToTheLimit() {
        ArtIndex x = new ArtIndex();
        for (int i = 0; i < 255; i++) {
            int key = i * 257;
            due(14, "put in call " + (2 * i + 1), x.put(key, i), 1);
            due(14, "remove in call " + (2 * i + 2), x.remove(key), 0);
        }
        due(14, "call 511", x.put(65535, 9), 1);
        due(14, "call 512", x.sumUnder(65535, 4), 9);
    }

    public static void main(String[] args) {
        promise1();
        promise2();
        promise3();
        everyBranchSize();
        mostWideBranches();
        promise4();
        promise5();
        promise6();
        promise7();
        promise8();
        promise9();
        promise10();
        promise11();
        promise12();
        promise13();
        promise14();
        System.out.println(wrong == 0 ? "all answers are as due" : wrong + " answers are not as due");
        if (wrong != 0) {
            System.exit(1);
        }
    }
}
