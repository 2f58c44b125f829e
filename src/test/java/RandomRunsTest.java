import java.util.NoSuchElementException;
import java.util.Random;

/**
 * All promises: runs of 512 calls on one object with arguments of all kinds, each compared with
 * PlainModel; now and then all that another object with the same past answers.
 */
public final class RandomRunsTest {
    private static final int[] ODD = {Integer.MIN_VALUE, -1000001, -256, -2, -1, 8, 9, 60, 255, 256,
        257, 1000000, 1000001, Integer.MAX_VALUE};

    private static final int MOST_OF_A_STEP = 8;

    private final Random random;
    private final String name;
    private final Maps x = new Maps();
    private final PlainModel model = new PlainModel();
    private int n = 1;
    private final boolean crowded;
    private final int[] counts = new int[6];

    private RandomRunsTest(int seed) {
        random = new Random(seed);
        name = "run " + seed + ": ";
        crowded = seed % 3 == 0;
    }

    public static void main(String[] args) {
        int[] counts = new int[6];
        for (int seed = 0; seed < 600; seed++) {
            RandomRunsTest run = new RandomRunsTest(seed);
            run.go(seed);
            for (int i = 0; i < counts.length; i++) {
                counts[i] += run.counts[i];
            }
        }
        // The runs must reach the limits, or they test less than they seem to.
        for (int i = 0; i < counts.length; i++) {
            Check.due("limit " + i + " reached often", counts[i] >= 20, true);
        }
        Check.end();
    }

    private void go(int seed) {
        int size = seed < 400 ? 1 + seed % 5 : 1 + seed % 8;
        n = size;
        Check.due(name + "begin", x.begin(size), model.begin(size));
        int steps = size > 6 ? 60 : 200;
        for (int step = 1; step <= steps && x.calls() + MOST_OF_A_STEP < Maps.MOST_CALLS; step++) {
            if (random.nextInt(100) < 75) {
                change();
            } else {
                ask();
            }
            if (step % 25 == 0) {
                compare();
            }
        }
        while (x.calls() < Maps.MOST_CALLS) {
            askForOne();
        }
        compare();
    }

    private int odd(int usual) {
        return random.nextInt(40) == 0 ? ODD[random.nextInt(ODD.length)] : usual;
    }

    private int set() {
        int set = random.nextInt(1 << n);
        return odd(random.nextBoolean() ? set & random.nextInt(1 << n) : set);
    }

    private int number() {
        int kind = random.nextInt(5);
        int number = kind == 0 ? 1000000 - random.nextInt(2) : kind == 1 ? 500000
            : kind == 2 ? 1 << random.nextInt(12) : random.nextInt(4);
        return odd(random.nextBoolean() ? -number : number);
    }

    private void change() {
        int pick = random.nextInt(100);
        if (pick < (crowded ? 80 : 45)) {
            int ups = set();
            int downs = set();
            int number = number();
            int before = x.total(1);
            int got = x.add(ups, downs, number);
            Check.due(name + "add(" + ups + ", " + downs + ", " + number + ")", got,
                model.add(ups, downs, number));
            counts[0] += got == -1 && before == 60 ? 1 : 0;
            counts[1] += got == -1 && before < 60 ? 1 : 0;
            counts[2] += got == before - 1 ? 1 : 0;
        } else if (pick < 85) {
            int j = odd(random.nextInt(n));
            boolean up = random.nextBoolean();
            boolean ahead = random.nextBoolean();
            int before = x.total(1);
            int got = x.ladder(j, up, ahead);
            Check.due(name + "ladder(" + j + ", " + up + ", " + ahead + ")", got,
                model.ladder(j, up, ahead));
            counts[3] += got == -1 && before > 30 ? 1 : 0;
            counts[4] += got == -1 && before <= 30 ? 1 : 0;
        } else if (pick < 90) {
            int kind = odd(random.nextInt(4));
            Check.due(name + "way(" + kind + ")", x.way(kind), model.way(kind));
        } else if (pick < 98) {
            int wire = odd(random.nextInt(n));
            int modes = set();
            Check.due(name + "row(" + wire + ", " + modes + ")", x.row(wire, modes),
                model.row(wire, modes));
            boolean told = x.way(3);
            Check.due(name + "way(3)", told, model.way(3));
            counts[5] += told ? 0 : 1;
            if (random.nextInt(3) > 0) {
                Check.due(name + "way(1)", x.way(1), model.way(1));
            }
        } else if (pick < 99 && !crowded) {
            x.clear();
            model.clear();
        } else if (!crowded) {
            int size = odd(n);
            Check.due(name + "begin(" + size + ")", x.begin(size), model.begin(size));
            n = x.total(0);
        }
    }

    private void ask() {
        askForOne();
        int what = odd(random.nextInt(n > 6 ? 3 : 5));
        Check.due(name + "total(" + what + ")", x.total(what), model.total(what));
        int from = set();
        int to = random.nextBoolean() ? from : set();
        Check.due(name + "makes(" + from + ", " + to + ")", Check.makes(x, from, to),
            modelMakes(from, to));
        int i = odd(random.nextInt(64) - 2);
        int part = odd(random.nextInt(5));
        Check.due(name + "product(" + i + ", " + part + ")", Check.product(x, i, part),
            modelProduct(i, part));
        if (n < 6 || random.nextInt(10) == 0) {
            int terms = (int) model.image(FermionMaps.NONE, 0);
            int term = terms > 0 && random.nextBoolean() ? random.nextInt(terms) : i;
            Check.due(name + "image(" + term + ", " + part + ")", Check.image(x, term, part),
                modelImage(term, part));
        }
    }

    private void askForOne() {
        int set = set();
        if (random.nextBoolean()) {
            Check.due(name + "written(" + set + ")", x.written(set), model.written(set));
        } else {
            Check.due(name + "read(" + set + ")", x.read(set), model.read(set));
        }
    }

    private void compare() {
        Maps other = x.again();
        Check.due(name + "the sum", Check.sum(other), model.sum());
        for (int what = -1; what < 6; what++) {
            Check.due(name + "total(" + what + ")", other.total(what), model.total(what));
        }
        Check.due(name + "the image", Check.terms(other), model.terms());
    }

    private String modelMakes(int from, int to) {
        try {
            return String.valueOf(model.makes(from, to));
        } catch (NoSuchElementException e) {
            return Check.THROWS;
        }
    }

    private String modelProduct(int i, int what) {
        try {
            return String.valueOf(model.product(i, what));
        } catch (NoSuchElementException e) {
            return Check.THROWS;
        }
    }

    private String modelImage(int i, int what) {
        try {
            return String.valueOf(model.image(i, what));
        } catch (NoSuchElementException e) {
            return Check.THROWS;
        }
    }
}
