import java.util.NoSuchElementException;

/**
 * Sums of products of ladders over at most eight modes, what they make of each state, and the
 * sums of flips and signs that they are on wires. All rows are made once, with the object.
 */
public final class FermionMaps {
    public static final int NONE = -1;

    private static final int MOST_MODES = 8;
    private static final int MOST_SETS = 256;
    private static final int EVERY_MODE = 255;
    private static final int BEHIND_ALL_KEYS = 65536;
    private static final int MOST_PRODUCTS = 60;
    private static final int MOST_NUMBER = 1000000;
    private static final int WAY_OF_MODES = 0;
    private static final int WAY_OF_SUMS = 1;
    private static final int WAY_OF_TREES = 2;
    private static final int WAY_AS_TOLD = 3;

    private final Sum sum;
    private final Wiring wiring;
    private final Picture picture;

    public FermionMaps() {
        sum = new Sum();
        wiring = new Wiring();
        picture = new Picture();
        wiring.reset(1);
    }

    public boolean begin(int n) {
        if (n < 1 || n > MOST_MODES) {
            return false;
        }
        sum.count = 0;
        wiring.reset(n);
        picture.drawn = false;
        return true;
    }

    public int add(int ups, int downs, int number) {
        if (!isSet(ups) || !isSet(downs) || isBeyond(number)) {
            return NONE;
        }
        if (!sum.take(MOST_SETS * ups + downs, number)) {
            return NONE;
        }
        picture.drawn = false;
        return sum.count;
    }

    public int ladder(int j, boolean up, boolean ahead) {
        if (j < 0 || j >= wiring.size) {
            return NONE;
        }
        if (!sum.climb(j, up, ahead)) {
            return NONE;
        }
        picture.drawn = false;
        return sum.count;
    }

    public void clear() {
        sum.count = 0;
        picture.drawn = false;
    }

    public int product(int i, int what) throws NoSuchElementException {
        if (i < 0 || i >= sum.count || what < 0 || what > 2) {
            throw new NoSuchElementException("no such product");
        }
        if (what == 0) {
            return sum.upsOf(i);
        }
        return what == 1 ? sum.downsOf(i) : sum.numbers[i];
    }

    public long makes(int from, int to) throws NoSuchElementException {
        if (!isSet(from) || !isSet(to)) {
            throw new NoSuchElementException("no such state");
        }
        return sum.between(from, to);
    }

    public boolean way(int kind) {
        if (kind < WAY_OF_MODES || kind > WAY_AS_TOLD || !wiring.choose(kind)) {
            return false;
        }
        picture.drawn = false;
        return true;
    }

    public boolean row(int wire, int modes) {
        if (wire < 0 || wire >= wiring.size || !isSet(modes) || wiring.kind == WAY_AS_TOLD) {
            return false;
        }
        wiring.told[wire] = modes;
        return true;
    }

    public int written(int state) {
        return isSet(state) ? wiring.bits(wiring.rows, state) : NONE;
    }

    public int read(int wires) {
        return isSet(wires) ? wiring.bits(wiring.back, wires) : NONE;
    }

    public long image(int i, int what) throws NoSuchElementException {
        picture.draw(sum, wiring);
        if (i == NONE) {
            return picture.terms;
        }
        if (i < 0 || i >= picture.terms || what < 0 || what > 3) {
            throw new NoSuchElementException("no such term");
        }
        if (what == 3) {
            return picture.halvings;
        }
        picture.find(i, sum, wiring);
        if (what == 0) {
            return picture.held;
        }
        return what == 1 ? picture.foundSigns : picture.foundNumber(wiring.size);
    }

    public int total(int what) {
        switch (what) {
            case 0:
                return wiring.size;
            case 1:
                return sum.count;
            case 2:
                return wiring.kind;
            case 3:
                picture.draw(sum, wiring);
                return picture.widest;
            case 4:
                return sum.isEven() ? 1 : 0;
            default:
                return NONE;
        }
    }

    private boolean isSet(int set) {
        return set >= 0 && set < (1 << wiring.size);
    }

    private static boolean isBeyond(int number) {
        return number < -MOST_NUMBER || number > MOST_NUMBER;
    }

    private static boolean has(int set, int member) {
        return ((set >> member) & 1) != 0;
    }

    private static boolean isOdd(int set) {
        return (Integer.bitCount(set) & 1) != 0;
    }

    /**
     * The modes that have an odd number of the set's modes above them. The ladders of a set are
     * done from the greatest down, so none changes what stands below the next one: together they
     * turn the sign as often as these modes are in the state that they find.
     */
    private static int oddBelow(int set) {
        int below = set >> 1;
        below ^= below >> 1;
        below ^= below >> 2;
        below ^= below >> 4;
        return below;
    }

    /** The sign of a product is a sign by the modes of oddBelow of both sets, and this one. */
    private static boolean turnsAlways(int ups, int downs) {
        return isOdd(downs & oddBelow(ups));
    }

    /** The products in the order of their keys, 256 * U + D. */
    private static final class Sum {
        int[] keys = new int[MOST_PRODUCTS];
        int[] numbers = new int[MOST_PRODUCTS];
        int[] spareKeys = new int[MOST_PRODUCTS];
        int[] spareNumbers = new int[MOST_PRODUCTS];
        int count = 0;

        int upsOf(int i) {
            return keys[i] >> MOST_MODES;
        }

        int downsOf(int i) {
            return keys[i] & EVERY_MODE;
        }

        boolean isEven() {
            for (int i = 0; i < count; i++) {
                if (Integer.bitCount(upsOf(i)) != Integer.bitCount(downsOf(i))) {
                    return false;
                }
            }
            return true;
        }

        long between(int from, int to) {
            long all = 0;
            for (int i = 0; i < count; i++) {
                int ups = upsOf(i);
                int downs = downsOf(i);
                boolean fits = (from & (ups | downs)) == downs && (from ^ ups ^ downs) == to;
                if (fits) {
                    boolean turned = isOdd(from & (oddBelow(ups) ^ oddBelow(downs)));
                    all += turned != turnsAlways(ups, downs) ? -numbers[i] : numbers[i];
                }
            }
            return all;
        }

        /** False, changing nothing, if the sum would break a limit. */
        boolean take(int key, int number) {
            int at = 0;
            while (at < count && keys[at] < key) {
                at++;
            }
            if (at < count && keys[at] == key) {
                return change(at, numbers[at] + number);
            }
            if (number == 0) {
                return true;
            }
            if (count >= MOST_PRODUCTS) {
                return false;
            }
            insert(at, key, number);
            return true;
        }

        boolean change(int at, int number) {
            if (isBeyond(number)) {
                return false;
            }
            if (number == 0) {
                strike(at);
            } else {
                numbers[at] = number;
            }
            return true;
        }

        void insert(int at, int key, int number) {
            for (int i = count; i > at; i--) {
                keys[i] = keys[i - 1];
                numbers[i] = numbers[i - 1];
            }
            keys[at] = key;
            numbers[at] = number;
            count++;
        }

        void strike(int at) {
            count--;
            for (int i = at; i < count; i++) {
                keys[i] = keys[i + 1];
                numbers[i] = numbers[i + 1];
            }
        }

        /**
         * A ladder goes past what stands between it and its place, with the sign turned round by
         * each, and joins. If it comes from the other kind's side, it also meets its own opposite
         * on the way, where that one is, and both vanish together.
         */
        boolean climb(int j, boolean up, boolean ahead) {
            int below = (1 << j) - 1;
            int above = EVERY_MODE - below - (1 << j);
            int upBit = MOST_SETS << j;
            int downBit = 1 << j;
            if (up && ahead) {
                return merge(upBit, MOST_SETS * below, 0, 0);
            }
            if (up) {
                return merge(upBit, MOST_SETS * above + EVERY_MODE, downBit, above);
            }
            if (ahead) {
                int passed = MOST_SETS * EVERY_MODE + below;
                return merge(downBit, passed, upBit, MOST_SETS * below);
            }
            return merge(downBit, above, 0, 0);
        }

        /**
         * Keys without the bit that joins keep their order when they get it, and keys with the bit
         * that meets keep theirs when they lose it: so two rows in order are merged, each new key
         * is met once, with its last number, and a limit that is broken there is broken for good.
         */
        boolean merge(int joinBit, int joinPassed, int meetBit, int meetPassed) {
            int made = 0;
            int joining = seek(0, joinBit, 0);
            int meeting = meetBit == 0 ? count : seek(0, meetBit, meetBit);
            for (int step = 0; step < 2 * MOST_PRODUCTS; step++) {
                if (joining >= count && meeting >= count) {
                    break;
                }
                int joined = joining < count ? keys[joining] + joinBit : BEHIND_ALL_KEYS;
                int met = meeting < count ? keys[meeting] - meetBit : BEHIND_ALL_KEYS;
                int key = Math.min(joined, met);
                int number = 0;
                if (joined == key) {
                    number += signed(joining, joinPassed);
                    joining = seek(joining + 1, joinBit, 0);
                }
                if (met == key) {
                    number += signed(meeting, meetPassed);
                    meeting = seek(meeting + 1, meetBit, meetBit);
                }
                if (number != 0) {
                    if (made >= MOST_PRODUCTS || isBeyond(number)) {
                        return false;
                    }
                    spareKeys[made] = key;
                    spareNumbers[made] = number;
                    made++;
                }
            }
            useSpare(made);
            return true;
        }

        /** The first place, from one on, whose key has of the bit what is wanted; else count. */
        int seek(int from, int bit, int wanted) {
            int at = from;
            while (at < count && (keys[at] & bit) != wanted) {
                at++;
            }
            return at;
        }

        int signed(int at, int passed) {
            return isOdd(keys[at] & passed) ? -numbers[at] : numbers[at];
        }

        void useSpare(int made) {
            int[] oldKeys = keys;
            int[] oldNumbers = numbers;
            keys = spareKeys;
            numbers = spareNumbers;
            spareKeys = oldKeys;
            spareNumbers = oldNumbers;
            count = made;
        }
    }

    /** The way in use: for each wire a row of modes, and back, for each mode a row of wires. */
    private static final class Wiring {
        final int[] told = new int[MOST_MODES];
        final int[] rows = new int[MOST_MODES];
        int[] back = new int[MOST_MODES];
        int[] spareBack = new int[MOST_MODES];
        final int[] left = new int[MOST_MODES];
        int size = 1;
        int kind = WAY_OF_MODES;

        void reset(int n) {
            size = n;
            kind = WAY_OF_MODES;
            for (int wire = 0; wire < MOST_MODES; wire++) {
                told[wire] = 1 << wire;
                rows[wire] = 1 << wire;
                back[wire] = 1 << wire;
            }
        }

        /** False, changing nothing, if the way would write two states alike. */
        boolean choose(int newKind) {
            if (!turnRound(newKind)) {
                return false;
            }
            int[] oldBack = back;
            back = spareBack;
            spareBack = oldBack;
            kind = newKind;
            for (int wire = 0; wire < size; wire++) {
                rows[wire] = rowOf(newKind, wire);
            }
            return true;
        }

        int rowOf(int someKind, int wire) {
            if (someKind == WAY_OF_MODES) {
                return 1 << wire;
            }
            if (someKind == WAY_OF_SUMS) {
                return (2 << wire) - 1;
            }
            if (someKind == WAY_OF_TREES) {
                int length = (wire + 1) & -(wire + 1);
                return ((1 << length) - 1) << (wire + 1 - length);
            }
            return told[wire];
        }

        /** Clears the rows of a way down to single modes; what that takes is the way back. */
        boolean turnRound(int someKind) {
            for (int wire = 0; wire < size; wire++) {
                left[wire] = rowOf(someKind, wire);
                spareBack[wire] = 1 << wire;
            }
            for (int mode = 0; mode < size; mode++) {
                if (!bringUp(mode)) {
                    return false;
                }
                for (int wire = 0; wire < size; wire++) {
                    if (wire != mode && has(left[wire], mode)) {
                        left[wire] ^= left[mode];
                        spareBack[wire] ^= spareBack[mode];
                    }
                }
            }
            return true;
        }

        /** Puts a row that has the mode, from the mode's own place on, at that place. */
        boolean bringUp(int mode) {
            for (int wire = mode; wire < size; wire++) {
                if (has(left[wire], mode)) {
                    int oldLeft = left[mode];
                    int oldBack = spareBack[mode];
                    left[mode] = left[wire];
                    spareBack[mode] = spareBack[wire];
                    left[wire] = oldLeft;
                    spareBack[wire] = oldBack;
                    return true;
                }
            }
            return false;
        }

        /** The set of those rows that have an odd number of members in the set. */
        int bits(int[] someRows, int set) {
            int result = 0;
            for (int i = 0; i < size; i++) {
                if (isOdd(someRows[i] & set)) {
                    result |= 1 << i;
                }
            }
            return result;
        }

        /** The wires whose bits give the same sign as the modes of the set do. */
        int signsOf(int set) {
            int result = 0;
            for (int mode = 0; mode < size; mode++) {
                if (has(set, mode)) {
                    result ^= back[mode];
                }
            }
            return result;
        }
    }

    /**
     * The image. Only how many terms each set of flips has is kept for all of them; the numbers
     * are held for one set of flips at a time, 2^n times as great as they are, so as to be whole.
     */
    private static final class Picture {
        static final int TURN = MOST_SETS;

        final int[] flipsOf = new int[MOST_PRODUCTS];
        final int[] termsAt = new int[MOST_SETS];
        final long[] numbers = new long[MOST_SETS];
        final int[] spread = new int[MOST_SETS];
        boolean drawn = false;
        int held = NONE;
        int terms = 0;
        int widest = 0;
        int halvings = 0;
        int foundSigns = 0;

        void draw(Sum sum, Wiring wiring) {
            if (drawn) {
                return;
            }
            terms = 0;
            widest = 0;
            markFlips(sum, wiring);
            int sets = 1 << wiring.size;
            long digits = 0;
            for (int flips = 0; flips < sets; flips++) {
                if (termsAt[flips] != 0) {
                    hold(flips, sum, wiring);
                    digits |= tally(sets);
                }
            }
            halvings = leastHalvings(digits, wiring.size);
            drawn = true;
        }

        void markFlips(Sum sum, Wiring wiring) {
            for (int flips = 0; flips < MOST_SETS; flips++) {
                termsAt[flips] = 0;
            }
            for (int i = 0; i < sum.count; i++) {
                flipsOf[i] = wiring.bits(wiring.rows, sum.upsOf(i) ^ sum.downsOf(i));
                termsAt[flipsOf[i]] = 1;
            }
        }

        void hold(int flips, Sum sum, Wiring wiring) {
            int sets = 1 << wiring.size;
            for (int signs = 0; signs < sets; signs++) {
                numbers[signs] = 0;
            }
            for (int i = 0; i < sum.count; i++) {
                if (flipsOf[i] == flips) {
                    bring(sum.upsOf(i), sum.downsOf(i), sum.numbers[i], wiring);
                }
            }
            held = flips;
        }

        /** All binary digits of the held numbers, laid over one another. */
        long tally(int sets) {
            long digits = 0;
            int found = 0;
            for (int signs = 0; signs < sets; signs++) {
                if (numbers[signs] != 0) {
                    digits |= numbers[signs];
                    found++;
                    widest = Math.max(widest, Integer.bitCount(held | signs));
                }
            }
            termsAt[held] = found;
            terms += found;
            return digits;
        }

        static int leastHalvings(long digits, int size) {
            long rest = (1L << size) - 1;
            int least = 0;
            while (least < size && ((digits << least) & rest) != 0) {
                least++;
            }
            return least;
        }

        /**
         * A product acts where the modes that it touches are as its downs tell. That test is a
         * factor (1 + or - the mode's sign) / 2 for each of them, so each gives two terms of one.
         */
        void bring(int ups, int downs, int number, Wiring wiring) {
            int touched = ups | downs;
            int start = wiring.signsOf(oddBelow(ups) ^ oddBelow(downs));
            spread[0] = turnsAlways(ups, downs) ? start + TURN : start;
            int size = 1;
            for (int mode = 0; mode < wiring.size; mode++) {
                if (has(touched, mode)) {
                    int step = wiring.back[mode];
                    size = doubled(size, has(downs, mode) ? step + TURN : step);
                }
            }
            long share = (long) number << (wiring.size - Integer.bitCount(touched));
            for (int at = 0; at < size; at++) {
                numbers[spread[at] & EVERY_MODE] += spread[at] >= TURN ? -share : share;
            }
        }

        int doubled(int size, int step) {
            for (int at = 0; at < size; at++) {
                spread[size + at] = spread[at] ^ step;
            }
            return 2 * size;
        }

        /** Holds the flips of the i-th term, which there must be, and tells its signs. */
        void find(int i, Sum sum, Wiring wiring) {
            int sets = 1 << wiring.size;
            int before = i;
            int flips = 0;
            while (flips < sets - 1 && before >= termsAt[flips]) {
                before -= termsAt[flips];
                flips++;
            }
            if (flips != held) {
                hold(flips, sum, wiring);
            }
            foundSigns = 0;
            for (int signs = 0; signs < sets; signs++) {
                if (numbers[signs] != 0) {
                    if (before == 0) {
                        foundSigns = signs;
                        break;
                    }
                    before--;
                }
            }
        }

        long foundNumber(int size) {
            return (numbers[foundSigns] << halvings) >> size;
        }
    }
}
