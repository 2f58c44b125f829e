import java.util.ArrayList;
import java.util.List;
import java.util.function.Consumer;
import java.util.function.Function;

/** Each call that is refused, in objects of many kinds: its answer, and that it changes nothing. */
public final class RefusedTest {
    private static final int MIN = Integer.MIN_VALUE;
    private static final int MAX = Integer.MAX_VALUE;
    private static final int NONE = FermionMaps.NONE;

    private final String name;
    private final Consumer<Maps> past;
    private final int n;

    private RefusedTest(String name, Consumer<Maps> past) {
        this.name = name;
        this.past = past;
        Maps x = new Maps();
        past.accept(x);
        n = x.total(0);
    }

    public static void main(String[] args) {
        for (RefusedTest kind : kinds()) {
            kind.begin();
            kind.add();
            kind.ladder();
            kind.product();
            kind.makes();
            kind.way();
            kind.row();
            kind.writtenAndRead();
            kind.image();
            kind.total();
        }
        Check.end();
    }

    private static List<RefusedTest> kinds() {
        List<RefusedTest> kinds = new ArrayList<>();
        kinds.add(new RefusedTest("new", x -> { }));
        kinds.add(new RefusedTest("one product", x -> {
            x.begin(2);
            x.add(1, 2, -3);
        }));
        kinds.add(new RefusedTest("way 3", x -> {
            x.begin(3);
            x.row(0, 7);
            x.row(1, 5);
            x.way(3);
            x.add(5, 2, 1000000);
            x.add(0, 1, -1000000);
        }));
        kinds.add(new RefusedTest("rows that wait", x -> {
            x.begin(4);
            x.way(1);
            x.row(0, 9);
            x.row(3, 12);
            x.add(8, 3, 7);
        }));
        kinds.add(new RefusedTest("rows alike", x -> {
            x.begin(3);
            x.way(2);
            x.row(1, 3);
            x.row(2, 2);
            x.add(4, 4, 2);
        }));
        kinds.add(new RefusedTest("full", RefusedTest::fill));
        kinds.add(new RefusedTest("eight modes, full", x -> {
            x.begin(8);
            x.way(2);
            for (int i = 0; i < 60; i++) {
                x.add(4 * i, 3 + i % 2, i % 3 == 0 ? -1000000 : 1000000);
            }
        }));
        kinds.add(new RefusedTest("eight modes, cleared", x -> {
            x.begin(8);
            x.row(7, 255);
            x.add(255, 255, 1);
            x.clear();
        }));
        return kinds;
    }

    private static void fill(Maps x) {
        x.begin(3);
        for (int i = 0; i < 60; i++) {
            x.add(i / 8, i % 8, i % 2 == 0 ? 1000000 : -1000000);
        }
    }

    private void refused(String call, Function<Maps, Object> doing, Object want) {
        Twins.refused(name + ": " + call, past, doing, want);
    }

    private void begin() {
        for (int size : new int[] {0, 9, -1, MIN, MAX}) {
            refused("begin(" + size + ")", x -> x.begin(size), false);
        }
    }

    private void add() {
        for (int set : new int[] {-1, 1 << n, MIN, MAX}) {
            refused("add(" + set + ", 0, 1)", x -> x.add(set, 0, 1), NONE);
            refused("add(0, " + set + ", 1)", x -> x.add(0, set, 1), NONE);
            refused("add(" + set + ", 0, 0)", x -> x.add(set, 0, 0), NONE);
        }
        for (int number : new int[] {1000001, -1000001, MIN, MAX}) {
            refused("add(0, 0, " + number + ")", x -> x.add(0, 0, number), NONE);
            refused("add(1, 1, " + number + ")", x -> x.add(1, 1, number), NONE);
        }
    }

    private void ladder() {
        for (int j : new int[] {-1, n, MIN, MAX}) {
            for (int kind = 0; kind < 4; kind++) {
                boolean up = kind % 2 == 0;
                boolean ahead = kind < 2;
                refused("ladder(" + j + ", " + up + ", " + ahead + ")",
                    x -> x.ladder(j, up, ahead), NONE);
            }
        }
    }

    private void product() {
        for (int i : new int[] {-1, 60, MIN, MAX}) {
            refused("product(" + i + ", 0)", x -> Check.product(x, i, 0), Check.THROWS);
        }
        refused("product(count, 2)", x -> Check.product(x, x.total(1), 2), Check.THROWS);
        for (int what : new int[] {-1, 3, MIN, MAX}) {
            refused("product(0, " + what + ")", x -> Check.product(x, 0, what), Check.THROWS);
        }
    }

    private void makes() {
        for (int state : new int[] {-1, 1 << n, MIN, MAX}) {
            refused("makes(" + state + ", 0)", x -> Check.makes(x, state, 0), Check.THROWS);
            refused("makes(0, " + state + ")", x -> Check.makes(x, 0, state), Check.THROWS);
        }
    }

    private void way() {
        for (int kind : new int[] {-1, 4, MIN, MAX}) {
            refused("way(" + kind + ")", x -> x.way(kind), false);
        }
    }

    private void row() {
        for (int wire : new int[] {-1, n, MIN, MAX}) {
            refused("row(" + wire + ", 1)", x -> x.row(wire, 1), false);
        }
        for (int modes : new int[] {-1, 1 << n, MIN, MAX}) {
            refused("row(0, " + modes + ")", x -> x.row(0, modes), false);
            refused("row(last, " + modes + ")", x -> x.row(n - 1, modes), false);
        }
    }

    private void writtenAndRead() {
        for (int set : new int[] {-1, 1 << n, MIN, MAX}) {
            refused("written(" + set + ")", x -> x.written(set), NONE);
            refused("read(" + set + ")", x -> x.read(set), NONE);
        }
    }

    private void image() {
        for (int i : new int[] {-2, 60 * 256, MIN, MAX}) {
            for (int what = 0; what < 4; what++) {
                int part = what;
                refused("image(" + i + ", " + part + ")", x -> Check.image(x, i, part),
                    Check.THROWS);
            }
        }
        refused("image(count, 3)", x -> Check.image(x, (int) x.image(NONE, 0), 3), Check.THROWS);
        for (int what : new int[] {-1, 4, MIN, MAX}) {
            refused("image(0, " + what + ")", x -> Check.image(x, 0, what), Check.THROWS);
        }
    }

    private void total() {
        for (int what : new int[] {-1, 5, MIN, MAX}) {
            refused("total(" + what + ")", x -> x.total(what), NONE);
        }
    }
}
