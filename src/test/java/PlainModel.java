import java.util.Map;
import java.util.NoSuchElementException;
import java.util.TreeMap;

/**
 * The document once more, as slow and plain as can be: ladders are done one by one on states, a
 * sum's product with a ladder and the image are taken from whole tables of what is made of what.
 */
final class PlainModel {
    private int n = 1;
    private TreeMap<Integer, Long> sum = new TreeMap<>();
    private int way = 0;
    private int[] told = {1};
    private TreeMap<Integer, Long> image = null;

    boolean begin(int size) {
        if (size < 1 || size > 8) {
            return false;
        }
        n = size;
        sum = new TreeMap<>();
        way = 0;
        told = new int[n];
        for (int i = 0; i < n; i++) {
            told[i] = 1 << i;
        }
        image = null;
        return true;
    }

    int add(int ups, int downs, int number) {
        if (noSet(ups) || noSet(downs) || number < -1000000 || number > 1000000) {
            return -1;
        }
        TreeMap<Integer, Long> next = new TreeMap<>(sum);
        next.merge(256 * ups + downs, (long) number, Long::sum);
        return take(next);
    }

    int ladder(int j, boolean up, boolean ahead) {
        if (j < 0 || j >= n) {
            return -1;
        }
        long[][] before = table();
        long[][] after = new long[1 << n][1 << n];
        for (int from = 0; from < 1 << n; from++) {
            for (int to = 0; to < 1 << n; to++) {
                if (ahead) {
                    int sign = ladderSign(j, up, to);
                    if (sign != 0) {
                        after[to ^ (1 << j)][from] += sign * before[to][from];
                    }
                } else {
                    int sign = ladderSign(j, up, from);
                    if (sign != 0) {
                        after[to][from] += sign * before[to][from ^ (1 << j)];
                    }
                }
            }
        }
        return take(sumOf(after));
    }

    void clear() {
        take(new TreeMap<>());
    }

    int product(int i, int what) {
        if (i < 0 || i >= sum.size() || what < 0 || what > 2) {
            throw new NoSuchElementException();
        }
        Map.Entry<Integer, Long> entry = entryAt(sum, i);
        int key = entry.getKey();
        return what == 0 ? key / 256 : what == 1 ? key % 256 : (int) (long) entry.getValue();
    }

    long makes(int from, int to) {
        if (noSet(from) || noSet(to)) {
            throw new NoSuchElementException();
        }
        return table()[to][from];
    }

    boolean way(int kind) {
        if (kind < 0 || kind > 3) {
            return false;
        }
        if (kind == 3) {
            boolean[] seen = new boolean[1 << n];
            for (int state = 0; state < 1 << n; state++) {
                int bits = writtenBy(3, state);
                if (seen[bits]) {
                    return false;
                }
                seen[bits] = true;
            }
        }
        way = kind;
        image = null;
        return true;
    }

    boolean row(int wire, int modes) {
        if (wire < 0 || wire >= n || noSet(modes) || way == 3) {
            return false;
        }
        told[wire] = modes;
        return true;
    }

    int written(int state) {
        return noSet(state) ? -1 : writtenBy(way, state);
    }

    int read(int wires) {
        for (int state = 0; state < 1 << n; state++) {
            if (writtenBy(way, state) == wires) {
                return state;
            }
        }
        return -1;
    }

    long image(int i, int what) {
        draw();
        if (i == -1) {
            return image.size();
        }
        if (i < 0 || i >= image.size() || what < 0 || what > 3) {
            throw new NoSuchElementException();
        }
        Map.Entry<Integer, Long> entry = entryAt(image, i);
        int k = leastK();
        switch (what) {
            case 0:
                return entry.getKey() / 256;
            case 1:
                return entry.getKey() % 256;
            case 2:
                return entry.getValue() * (1 << k) / (1 << n);
            default:
                return k;
        }
    }

    int total(int what) {
        switch (what) {
            case 0:
                return n;
            case 1:
                return sum.size();
            case 2:
                return way;
            case 3:
                draw();
                int most = 0;
                for (int key : image.keySet()) {
                    most = Math.max(most, Integer.bitCount((key / 256) | (key % 256)));
                }
                return most;
            case 4:
                for (int key : sum.keySet()) {
                    if (Integer.bitCount(key / 256) != Integer.bitCount(key % 256)) {
                        return 0;
                    }
                }
                return 1;
            default:
                return -1;
        }
    }

    private boolean noSet(int set) {
        return set < 0 || set >= 1 << n;
    }

    private static Map.Entry<Integer, Long> entryAt(TreeMap<Integer, Long> map, int i) {
        int left = i;
        for (Map.Entry<Integer, Long> entry : map.entrySet()) {
            if (left-- == 0) {
                return entry;
            }
        }
        throw new IllegalStateException();
    }

    private int take(TreeMap<Integer, Long> next) {
        next.values().removeIf(number -> number == 0);
        for (long number : next.values()) {
            if (Math.abs(number) > 1000000) {
                return -1;
            }
        }
        if (next.size() > 60) {
            return -1;
        }
        sum = next;
        image = null;
        return sum.size();
    }

    private static int ladderSign(int j, boolean up, int state) {
        boolean there = (state >> j & 1) == 1;
        if (there == up) {
            return 0;
        }
        int sign = 1;
        for (int below = 0; below < j; below++) {
            if ((state >> below & 1) == 1) {
                sign = -sign;
            }
        }
        return sign;
    }

    /** What a product makes of a state: {sign, state}, the sign 0 for nothing. */
    private int[] made(int key, int from) {
        int sign = 1;
        int state = from;
        for (int mode = n - 1; mode >= 0; mode--) {
            if ((key % 256 >> mode & 1) == 1) {
                sign *= ladderSign(mode, false, state);
                state ^= 1 << mode;
            }
        }
        for (int mode = n - 1; mode >= 0; mode--) {
            if ((key / 256 >> mode & 1) == 1) {
                sign *= ladderSign(mode, true, state);
                state ^= 1 << mode;
            }
        }
        return new int[] {sign, state};
    }

    private void lay(long[][] table, int key, long number) {
        for (int from = 0; from < 1 << n; from++) {
            int[] made = made(key, from);
            if (made[0] != 0) {
                table[made[1]][from] += made[0] * number;
            }
        }
    }

    private long[][] table() {
        long[][] table = new long[1 << n][1 << n];
        for (Map.Entry<Integer, Long> entry : sum.entrySet()) {
            lay(table, entry.getKey(), entry.getValue());
        }
        return table;
    }

    /** Of state D only products with downs within D make something: so small D are settled first. */
    private TreeMap<Integer, Long> sumOf(long[][] table) {
        TreeMap<Integer, Long> found = new TreeMap<>();
        for (int size = 0; size <= n; size++) {
            for (int downs = 0; downs < 1 << n; downs++) {
                if (Integer.bitCount(downs) != size) {
                    continue;
                }
                for (int ups = 0; ups < 1 << n; ups++) {
                    long left = table[ups][downs];
                    if (left != 0) {
                        int key = 256 * ups + downs;
                        long number = left * made(key, downs)[0];
                        found.put(key, number);
                        lay(table, key, -number);
                    }
                }
            }
        }
        return found;
    }

    private int writtenBy(int kind, int state) {
        int bits = 0;
        for (int wire = 0; wire < n; wire++) {
            int first = wire;
            if (kind == 1) {
                first = 0;
            } else if (kind == 2) {
                int t = 1;
                while ((wire + 1) % (2 * t) == 0) {
                    t *= 2;
                }
                first = wire - t + 1;
            }
            int count = 0;
            for (int mode = 0; mode < n; mode++) {
                boolean counts = kind == 3 ? (told[wire] >> mode & 1) == 1 : mode >= first && mode <= wire;
                if (counts && (state >> mode & 1) == 1) {
                    count++;
                }
            }
            if (count % 2 == 1) {
                bits |= 1 << wire;
            }
        }
        return bits;
    }

    /** The image's numbers times 2^n, by the sum over all bits for each F and S. */
    private void draw() {
        if (image != null) {
            return;
        }
        image = new TreeMap<>();
        long[][] table = table();
        int size = 1 << n;
        int[] reads = new int[size];
        for (int state = 0; state < size; state++) {
            reads[writtenBy(way, state)] = state;
        }
        for (int flips = 0; flips < size; flips++) {
            long[] row = new long[size];
            boolean some = false;
            for (int bits = 0; bits < size; bits++) {
                row[bits] = table[reads[bits ^ flips]][reads[bits]];
                some |= row[bits] != 0;
            }
            for (int signs = 0; some && signs < size; signs++) {
                long all = 0;
                for (int bits = 0; bits < size; bits++) {
                    all += Integer.bitCount(bits & signs) % 2 == 0 ? row[bits] : -row[bits];
                }
                if (all != 0) {
                    image.put(256 * flips + signs, all);
                }
            }
        }
    }

    private int leastK() {
        int k = 0;
        boolean whole = false;
        while (!whole) {
            whole = true;
            for (long number : image.values()) {
                whole &= number * (1 << k) % (1 << n) == 0;
            }
            if (!whole) {
                k++;
            }
        }
        return k;
    }

    /** The image as Check.terms() tells it, in one go. */
    String terms() {
        draw();
        int k = leastK();
        StringBuilder text = new StringBuilder();
        for (Map.Entry<Integer, Long> entry : image.entrySet()) {
            text.append(entry.getKey() / 256).append(',').append(entry.getKey() % 256).append(',');
            text.append(entry.getValue() * (1 << k) / (1 << n)).append(' ');
        }
        if (!image.isEmpty()) {
            text.append('/').append(k);
        }
        return text.toString().trim();
    }

    /** The sum as Check.sum() tells it. */
    String sum() {
        StringBuilder text = new StringBuilder();
        for (Map.Entry<Integer, Long> entry : sum.entrySet()) {
            text.append(entry.getKey() / 256).append(',').append(entry.getKey() % 256).append(',');
            text.append(entry.getValue()).append(' ');
        }
        return text.toString().trim();
    }
}
