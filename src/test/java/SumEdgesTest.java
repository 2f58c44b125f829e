import java.util.function.Function;

/** The edges of the terms and of promises 1 to 7, a test for each sentence that names one. */
public final class SumEdgesTest {
    private static final int MIN = Integer.MIN_VALUE;
    private static final int MAX = Integer.MAX_VALUE;
    private static final int NONE = FermionMaps.NONE;
    private static final int MOST = 1000000;

    private SumEdgesTest() {
    }

    public static void main(String[] args) {
        laddersOnEachState();
        productsOnEachState();
        theEmptyProduct();
        orderOfProducts();
        onePastItself();
        laddersOfEachProduct();
        newObject();
        beginTakes();
        beginLeavesNothing();
        setsThatAddTakes();
        numbersThatAddTakes();
        numbersBeyondInTheSum();
        numberNought();
        sixtyAndNoMore();
        modesThatLadderTakes();
        ladderToTheGreatestNumber();
        ladderToSixtyAndNoMore();
        ladderWherePairsMeet();
        ladderRefusedAfterOthers();
        ladderAfterQuestions();
        ladderOfFullSums();
        ladderOfTheEmptySum();
        clear();
        productsThatThereAre();
        statesThatThereAre();
        greatestNumberMade();
        fiveHundredAndTwelveCalls();
        eachCallAsTheLast();
        Check.end();
    }

    private static Maps of(int n) {
        Maps x = new Maps();
        Check.due("begin(" + n + ")", x.begin(n), true);
        return x;
    }

    private static Maps full() {
        Maps x = of(3);
        fill(x);
        return x;
    }

    /** 60 of the 64 products on three modes: all but those of keys (7, 4) and beyond. */
    private static void fill(Maps x) {
        x.begin(3);
        for (int i = 0; i < 60; i++) {
            Check.due("fill", x.add(i / 8, i % 8, i + 1), i + 1);
        }
    }

    /** "of one with j nothing", "of one without it nothing", "as often turned round as .. below". */
    private static void laddersOnEachState() {
        for (int n = 1; n <= 8; n++) {
            for (int j = 0; j < n; j++) {
                Maps up = of(n);
                up.add(1 << j, 0, 1);
                Maps down = of(n);
                down.add(0, 1 << j, 1);
                for (int from = 0; from < 1 << n; from++) {
                    boolean there = (from >> j) % 2 == 1;
                    int sign = Integer.bitCount(from % (1 << j)) % 2 == 0 ? 1 : -1;
                    int to = from ^ (1 << j);
                    Check.due("UP " + j + " of " + from, up.makes(from, to), there ? 0 : sign);
                    Check.due("DOWN " + j + " of " + from, down.makes(from, to), there ? sign : 0);
                    Check.due("UP leaves none", up.makes(from, from), 0);
                    Check.due("DOWN leaves none", down.makes(from, from), 0);
                }
            }
        }
    }

    /** "first the DOWNS of D are done, the greatest MODE first, the least one last, then the UPS" */
    private static void productsOnEachState() {
        for (int ups = 0; ups < 8; ups++) {
            for (int downs = 0; downs < 8; downs++) {
                Maps x = of(3);
                x.add(ups, downs, 1);
                for (int pair = 0; pair < 64; pair++) {
                    int from = pair / 8;
                    int to = pair % 8;
                    Check.due("(" + ups + ", " + downs + ") of " + from + " to " + to,
                        x.makes(from, to), oneByOne(ups, downs, from, to));
                }
            }
        }
        Maps all = of(8);
        all.add(255, 255, 1);
        Check.due("all down and up", all.makes(255, 255), oneByOne(255, 255, 255, 255));
        Check.due("one is missing", all.makes(254, 254), 0);
    }

    private static int oneByOne(int ups, int downs, int from, int to) {
        int sign = 1;
        int state = from;
        for (int step = 0; step < 16; step++) {
            int mode = 7 - step % 8;
            boolean up = step >= 8;
            if (((up ? ups : downs) >> mode) % 2 == 1) {
                boolean there = (state >> mode) % 2 == 1;
                if (there == up) {
                    return 0;
                }
                sign *= Integer.bitCount(state % (1 << mode)) % 2 == 0 ? 1 : -1;
                state ^= 1 << mode;
            }
        }
        return state == to ? sign : 0;
    }

    /** "(The empty PRODUCT leaves each STATE as it is.)" */
    private static void theEmptyProduct() {
        for (int n = 1; n <= 8; n++) {
            Maps x = of(n);
            x.add(0, 0, 7);
            for (int from = 0; from < 1 << n; from++) {
                for (int to = 0; to < 1 << n; to++) {
                    Check.due("as it is", x.makes(from, to), from == to ? 7 : 0);
                }
            }
        }
    }

    /** "in the order of 256 * U + D", also where U goes up by one. */
    private static void orderOfProducts() {
        Maps x = of(8);
        int[][] sets = {{255, 255}, {1, 0}, {0, 0}, {255, 0}, {0, 255}, {254, 255}, {0, 1}};
        for (int i = 0; i < sets.length; i++) {
            Check.due("add", x.add(sets[i][0], sets[i][1], i + 1), i + 1);
        }
        Check.due("order", Check.sum(x),
            "0,0,3 0,1,7 0,255,5 1,0,2 254,255,6 255,0,4 255,255,1");
    }

    /** "UP j DOWN j is one thing for itself, DOWN j UP j the opposite of it, and 1", "one twice". */
    private static void onePastItself() {
        for (int n = 1; n <= 8; n++) {
            int j = n - 1;
            int bit = 1 << j;
            String one = bit + "," + bit + ",1";
            String opposite = "0,0,1 " + bit + "," + bit + ",-1";
            Check.due("down, then up", ladders(n, j, false, true, true), one);
            Check.due("up behind down", ladders(n, j, false, true, false), opposite);
            Check.due("up, then down", ladders(n, j, true, false, true), opposite);
            Check.due("down behind up", ladders(n, j, true, false, false), one);
            Check.due("up twice", ladders(n, j, true, true, true), "");
            Check.due("up twice", ladders(n, j, true, true, false), "");
            Check.due("down twice", ladders(n, j, false, false, true), "");
            Check.due("down twice", ladders(n, j, false, false, false), "");
        }
    }

    private static String ladders(int n, int j, boolean first, boolean second, boolean ahead) {
        Maps x = of(n);
        x.add(0, 0, 1);
        x.ladder(j, first, ahead);
        x.ladder(j, second, ahead);
        return Check.sum(x);
    }

    /** "AHEAD .. each PRODUCT is done first, then the LADDER; BEHIND: the LADDER first." */
    private static void laddersOfEachProduct() {
        for (int call = 0; call < 64 * 12; call++) {
            int ups = call % 8;
            int downs = call / 8 % 8;
            int j = call / 64 % 3;
            int up = call / 192 % 2 == 0 ? 1 << j : 0;
            int down = (1 << j) - up;
            boolean ahead = call / 384 == 0;
            Maps x = of(3);
            x.add(ups, downs, 1);
            Check.due("4: count", x.ladder(j, up != 0, ahead), x.total(1));
            for (int pair = 0; pair < 64; pair++) {
                int from = pair / 8;
                int to = pair % 8;
                int first = ahead ? oneByOne(ups, downs, from, to ^ (1 << j))
                    : oneByOne(up, down, from, from ^ (1 << j));
                int second = ahead ? oneByOne(up, down, to ^ (1 << j), to)
                    : oneByOne(ups, downs, from ^ (1 << j), to);
                Check.due("4: ladder " + call + " of " + from + " to " + to, x.makes(from, to),
                    first * second);
            }
        }
    }

    /** Promise 1: "One MODE, an empty SUM, WAY 0." */
    private static void newObject() {
        Maps x = new Maps();
        Check.due("1: one mode", x.total(0), 1);
        Check.due("1: an empty sum", x.total(1), 0);
        Check.due("1: no product", Check.product(x, 0, 0), Check.THROWS);
        Check.due("1: no term", Check.image(x, 0, 0), Check.THROWS);
        Check.due("1: no terms", Check.image(x, NONE, 0), "0");
        Check.due("1: way 0", x.total(2), 0);
        Check.due("1: no wide term", x.total(3), 0);
        Check.due("1: as many ups as downs", x.total(4), 1);
        Check.due("1: the last state", x.written(1) + " " + x.read(1), "1 1");
        Check.due("1: beyond it", x.written(2) + " " + x.read(2), "-1 -1");
        Check.due("1: makes nothing", Check.makes(x, 1, 1), "0");
        Check.due("1: beyond", Check.makes(x, 2, 0), Check.THROWS);
        Check.due("1: beyond", Check.makes(x, 0, 2), Check.THROWS);
        Check.due("1: the last mode", x.ladder(0, true, true), 0);
        Check.due("1: beyond it", x.ladder(1, true, true), NONE);
        Check.due("1: the last row", x.row(0, 1), true);
        Check.due("1: beyond it", x.row(1, 1), false);
        Check.due("1: beyond", x.row(0, 2), false);
        Check.due("1: the last sets", x.add(1, 1, 1), 1);
        Check.due("1: beyond", x.add(2, 0, 1) + " " + x.add(0, 2, 1), "-1 -1");
        Check.due("1: like begin(1)", Twins.later(new Maps()), Twins.later(of(1)));
    }

    /** Promise 2: "n MODES .. true; false .. for another n", n is 1 .. 8. */
    private static void beginTakes() {
        for (int n = -300; n <= 300; n++) {
            Maps x = new Maps();
            boolean taken = n >= 1 && n <= 8;
            Check.due("2: begin(" + n + ")", x.begin(n), taken);
            Check.due("2: modes after begin(" + n + ")", x.total(0), taken ? n : 1);
        }
        for (int n : new int[] {MIN, MIN + 1, MIN + 8, MAX - 1, MAX, 1 << 8, 1 << 30}) {
            Check.due("2: begin(" + n + ")", new Maps().begin(n), false);
        }
    }

    /** Promise 2: "an empty SUM, WAY 0 (rows of WAY 3 as of 0)", whatever was there before. */
    private static void beginLeavesNothing() {
        for (int n = 1; n <= 8; n++) {
            for (int kind = 0; kind < 4; kind++) {
                Maps x = of(8);
                for (int wire = 0; wire < 8; wire++) {
                    x.row(wire, 256 - (1 << wire));
                }
                x.add(255, 255, MOST);
                x.add(3, 0, 1);
                Check.due("2: way", x.way(kind), true);
                Check.due("2: image before", x.image(NONE, 0) > 0, true);
                Check.due("2: begin", x.begin(n), true);
                Check.due("2: nothing is left", Twins.later(x), Twins.later(of(n)));
            }
        }
        Maps waiting = of(2);
        waiting.row(0, 0);
        waiting.begin(2);
        Check.due("2: rows as of 0", waiting.way(3), true);
        Check.due("2: rows as of 0", waiting.written(1) + " " + waiting.written(2), "1 2");
    }

    /** Promise 3: "NONE .. if there are no such sets" */
    private static void setsThatAddTakes() {
        for (int n = 1; n <= 8; n++) {
            int last = (1 << n) - 1;
            Maps x = of(n);
            Check.due("3: the first sets", x.add(0, 0, 1), 1);
            Check.due("3: the last ups", x.add(last, 0, 2), 2);
            Check.due("3: the last downs", x.add(0, last, 3), 3);
            Check.due("3: the last sets", x.add(last, last, 4), 4);
            for (int none : new int[] {last + 1, -1, last + 2, 256, MIN, MAX, MIN + last}) {
                Check.due("3: no such ups " + none, x.add(none, last, 1), NONE);
                Check.due("3: no such downs " + none, x.add(last, none, 1), NONE);
                Check.due("3: no such sets " + none, x.add(none, none, 1), NONE);
            }
            Check.due("3: what is there", Check.sum(x), "0,0,1 0," + last + ",3 " + last + ",0,2 "
                + last + "," + last + ",4");
        }
    }

    /** Promise 3: "number is beyond -1000000 .. 1000000" */
    private static void numbersThatAddTakes() {
        for (int number : new int[] {MOST, -MOST, MOST - 1, 1 - MOST, 1, -1}) {
            Maps x = of(2);
            Check.due("3: add " + number, x.add(1, 2, number), 1);
            Check.due("3: number", Check.product(x, 0, 2), number);
        }
        for (int number : new int[] {MOST + 1, -MOST - 1, MIN, MAX, MIN + MOST, MAX - MOST}) {
            Twins.refused("3: add " + number, x -> x.begin(2), x -> x.add(1, 2, number), NONE);
        }
        // The sum's number would be within, but the call's is not.
        Twins.refused("3: beyond by itself", x -> x.add(1, 1, -5), x -> x.add(1, 1, MOST + 1),
            NONE);
        Twins.refused("3: beyond by itself", x -> x.add(1, 1, 5), x -> x.add(1, 1, -MOST - 1),
            NONE);
    }

    /** Promise 3: "or the SUM would have a number beyond" */
    private static void numbersBeyondInTheSum() {
        for (int sign : new int[] {1, -1}) {
            Maps x = of(2);
            x.add(1, 2, sign * (MOST - 1));
            Check.due("3: to the last number", x.add(1, 2, sign), 1);
            Check.due("3: that is it", Check.product(x, 0, 2), sign * MOST);
            Check.due("3: from end to end, but one", x.add(1, 2, -sign * MOST), 0);
            Twins.refused("3: one beyond", y -> y.add(1, 1, sign * MOST),
                y -> y.add(1, 1, sign), NONE);
            Twins.refused("3: as far beyond as can be", y -> y.add(1, 1, sign * MOST),
                y -> y.add(1, 1, sign * MOST), NONE);
            Twins.refused("3: one beyond, in the midst", y -> {
                y.add(0, 1, 4);
                y.add(1, 0, sign * (MOST - 3));
                y.add(1, 1, 5);
            }, y -> y.add(1, 0, sign * 4), NONE);
        }
    }

    /** Terms: "each with a whole number (not 0)" */
    private static void numberNought() {
        Maps x = of(2);
        Check.due("3: none of one", x.add(3, 3, 0), 0);
        Check.due("3: not there", Check.sum(x), "");
        x.add(0, 0, MOST);
        x.add(1, 1, 1);
        x.add(3, 3, -MOST);
        Check.due("3: none of one that is there", x.add(1, 1, 0), 3);
        Check.due("3: the first away", x.add(0, 0, -MOST), 2);
        Check.due("3: sum", Check.sum(x), "1,1,1 3,3,-1000000");
        Check.due("3: the last away", x.add(3, 3, MOST), 1);
        Check.due("3: sum", Check.sum(x), "1,1,1");
        Check.due("3: the only one away", x.add(1, 1, -1), 0);
        Check.due("3: no product", Check.product(x, 0, 0), Check.THROWS);
        Check.due("3: no term", Check.image(x, NONE, 0), "0");
        Check.due("3: there again", x.add(1, 1, 2), 1);
        Check.due("3: sum", Check.sum(x), "1,1,2");
    }

    /** Promise 3: "or more than 60" */
    private static void sixtyAndNoMore() {
        for (int number : new int[] {1, -1, MOST, -MOST}) {
            Twins.refused("3: a 61st, behind all", SumEdgesTest::fill, x -> x.add(7, 7, number),
                NONE);
            Twins.refused("3: a 61st, next to the last", SumEdgesTest::fill,
                x -> x.add(7, 4, number), NONE);
        }
        Twins.refused("3: a 61st, ahead of all", x -> {
            x.begin(3);
            for (int i = 63; i > 3; i--) {
                x.add(i / 8, i % 8, 1);
            }
        }, x -> x.add(0, 0, 1), NONE);
        Twins.refused("3: none of a 61st", SumEdgesTest::fill, x -> x.add(7, 7, 0), 60);
        Maps x = full();
        Check.due("3: one of the 60", x.add(0, 0, 1), 60);
        Check.due("3: one of the 60", x.add(7, 3, -61), 60);
        Check.due("3: 59", x.add(3, 3, -28), 59);
        Check.due("3: a new 60th", x.add(7, 7, 5), 60);
        Check.due("3: the last", Check.product(x, 59, 2), "5");
        Check.due("3: no more", x.add(3, 3, 28), NONE);
    }

    /** Promise 4: "NONE, changing nothing, if there is no such j" */
    private static void modesThatLadderTakes() {
        for (int n = 1; n <= 8; n++) {
            for (int kind = 0; kind < 4; kind++) {
                boolean up = kind % 2 == 0;
                boolean ahead = kind < 2;
                for (int j = 0; j < n; j++) {
                    Maps x = of(n);
                    x.add(0, 0, 3);
                    Check.due("4: ladder " + j, x.ladder(j, up, ahead), 1);
                    String set = up ? (1 << j) + ",0,3" : "0," + (1 << j) + ",3";
                    Check.due("4: sum", Check.sum(x), set);
                }
                Maps x = of(n);
                x.add(0, 0, 3);
                for (int none : new int[] {n, -1, 8, 31, 32, 33, -32, MIN, MAX}) {
                    Check.due("4: ladder " + none, x.ladder(none, up, ahead), NONE);
                    Check.due("4: nothing changed", Check.sum(x), "0,0,3");
                }
            }
        }
    }

    /** Promise 4: "or as for add()": a number beyond, on both sides, by both ladders that meet. */
    private static void ladderToTheGreatestNumber() {
        for (int sign : new int[] {1, -1}) {
            for (boolean up : new boolean[] {true, false}) {
                Maps x = new Maps();
                x.add(0, 0, sign * (MOST - 1));
                x.add(1, 1, sign);
                Check.due("4: to the last number", x.ladder(0, up, !up), 1);
                Check.due("4: that is it", Check.product(x, 0, 2), sign * MOST);
                Twins.refused("4: one beyond", y -> {
                    y.add(0, 0, sign * MOST);
                    y.add(1, 1, sign);
                }, y -> y.ladder(0, up, !up), NONE);
                Twins.refused("4: one beyond, behind others", y -> {
                    y.begin(2);
                    y.add(0, 0, 5);
                    y.add(2, 2, sign * MOST);
                    y.add(3, 3, -sign);
                }, y -> y.ladder(0, up, !up), NONE);
                Maps alone = new Maps();
                alone.add(0, 0, sign * MOST);
                Check.due("4: greatest number alone", alone.ladder(0, up, !up), 1);
                Check.due("4: it stays", Check.product(alone, 0, 2), sign * MOST);
                Maps away = new Maps();
                away.add(0, 0, sign * MOST);
                away.add(1, 1, -sign * MOST);
                Check.due("4: greatest numbers take each other away", away.ladder(0, up, !up), 0);
            }
        }
        Maps turned = new Maps();
        turned.begin(2);
        turned.add(1, 0, MOST);
        turned.add(2, 2, -MOST);
        Check.due("4: turned round at the end", turned.ladder(1, true, true), 1);
        Check.due("4: turned round at the end", Check.sum(turned), "3,0,-1000000");
    }

    private static void addOddUps(Maps x, int count) {
        x.begin(8);
        for (int i = 0; i < count; i++) {
            Check.due("add", x.add(2 * i + 1, 0, 1), i + 1);
        }
    }

    private static void addOddDowns(Maps x, int count) {
        x.begin(8);
        for (int i = 0; i < count; i++) {
            Check.due("add", x.add(0, 2 * i + 1, 1), i + 1);
        }
    }

    /** Promise 4: "or as for add()": more than 60; each of these becomes two where they meet. */
    private static void ladderToSixtyAndNoMore() {
        Maps x = new Maps();
        addOddUps(x, 30);
        Check.due("4: 60 of 30", x.ladder(0, false, true), 60);
        Maps y = new Maps();
        addOddDowns(y, 30);
        Check.due("4: 60 of 30", y.ladder(0, true, false), 60);
        Twins.refused("4: 62 of 31", z -> addOddUps(z, 31), z -> z.ladder(0, false, true), NONE);
        Twins.refused("4: 62 of 31", z -> addOddDowns(z, 31), z -> z.ladder(0, true, false), NONE);
        Twins.refused("4: 61 of 31", z -> {
            addOddUps(z, 30);
            z.add(64, 0, 1);
        }, z -> z.ladder(0, false, true), NONE);
        Twins.refused("4: 61 of 31", z -> {
            addOddDowns(z, 30);
            z.add(64, 0, 1);
        }, z -> z.ladder(0, true, false), NONE);
        Twins.refused("4: 120 of 60", z -> addOddUps(z, 60), z -> z.ladder(0, false, true), NONE);
    }

    /** 29 products that become 58, and pairs of products, from one on, that come to one place. */
    private static void addPairs(Maps x, int first, int pairs, boolean takeAway) {
        x.begin(8);
        for (int i = 40; i < 69; i++) {
            x.add(2 * i + 1, 0, 1);
        }
        for (int i = first; i < first + pairs; i++) {
            boolean turned = Integer.bitCount(i) % 2 == 1;
            x.add(2 * i, 4, 3);
            x.add(2 * i + 1, 5, turned == takeAway ? 3 : -3);
        }
        Check.due("products", x.total(1), 29 + 2 * pairs);
    }

    /** Promise 4: "the SUM would have .. more than 60": what counts is what comes together. */
    private static void ladderWherePairsMeet() {
        for (int first : new int[] {0, 45, 90}) {
            Maps x = new Maps();
            addPairs(x, first, 2, false);
            Check.due("4: 58, and two of two pairs", x.ladder(0, false, true), 60);
            Twins.refused("4: 58, and three of three pairs", y -> addPairs(y, first, 3, false),
                y -> y.ladder(0, false, true), NONE);
            Maps away = new Maps();
            addPairs(away, first, 15, true);
            Check.due("4: 58, and none of 15 pairs", away.ladder(0, false, true), 58);
            Check.due("4: the last of 58", Check.product(away, 57, 0), "137");
        }
    }

    /** Promise 4: "NONE, changing nothing", also where ladders have been taken before. */
    private static void ladderRefusedAfterOthers() {
        for (int before = 1; before <= 3; before++) {
            int ladders = before;
            Twins.refused("4: beyond, after " + before + " ladders", x -> {
                x.begin(4);
                x.add(0, 0, 1);
                for (int i = 0; i < ladders; i++) {
                    x.ladder(3 - i, true, i % 2 == 0);
                }
                x.add(2, 2, 7);
                x.add(8, 4, MOST);
                x.add(9, 5, -MOST);
            }, x -> x.ladder(0, false, true), NONE);
        }
    }

    /** Promise 4: what a ladder makes is seen, whatever was asked before. */
    private static void ladderAfterQuestions() {
        Maps x = of(3);
        Maps other = of(3);
        x.add(1, 2, 3);
        other.add(1, 2, 3);
        Twins.answers(x);
        Check.due("4: ladder", x.ladder(2, true, true), other.ladder(2, true, true));
        Check.due("4: asked before or not", Twins.later(x), Twins.later(other));
    }

    /** Promise 4: a SUM of 60 stays one of 60, or becomes less. */
    private static void ladderOfFullSums() {
        for (int kind = 0; kind < 4; kind++) {
            boolean up = kind % 2 == 0;
            boolean ahead = kind < 2;
            Maps x = of(8);
            for (int i = 0; i < 60; i++) {
                x.add(up ? i : 1, up ? 1 : i, i % 2 == 0 ? MOST : -MOST);
            }
            Check.due("4: 60 of 60", x.ladder(7, up, ahead), 60);
            Check.due("4: none of 60", x.ladder(7, up, ahead), 0);
            Check.due("4: none of none", x.ladder(7, !up, ahead), 0);
        }
        Maps meeting = of(8);
        for (int i = 0; i < 30; i++) {
            meeting.add(2 * i, 0, 1);
            meeting.add(2 * i + 61, 1, 1);
        }
        Check.due("4: 30 that join, then 30 that meet", meeting.ladder(0, false, true), 60);
        Check.due("4: the last", Check.product(meeting, 59, 0), "118");
        Maps half = full();
        Check.due("4: the half with bit 2 is nothing", half.ladder(2, true, true), 32);
        Maps first = full();
        first.ladder(0, false, false);
        Check.due("4: the first of them", Check.product(first, 0, 1), "1");
    }

    /** Promise 4: of an empty SUM an empty one comes. */
    private static void ladderOfTheEmptySum() {
        for (int kind = 0; kind < 4; kind++) {
            boolean up = kind % 2 == 0;
            boolean ahead = kind < 2;
            Twins.refused("4: none of none", x -> x.begin(8), x -> x.ladder(7, up, ahead), 0);
            Twins.refused("4: none of none", x -> { }, x -> x.ladder(0, up, ahead), 0);
        }
    }

    /** Promise 5: "The SUM is empty.", and nothing else is another. */
    private static void clear() {
        Maps x = full();
        x.clear();
        Check.due("5: full, then empty", x.total(1), 0);
        Check.due("5: no product", Check.product(x, 0, 2), Check.THROWS);
        Check.due("5: nothing made", x.makes(0, 0), 0);
        Check.due("5: no terms", x.image(NONE, 0), 0);
        Check.due("5: like a new one", Twins.later(x), Twins.later(of(3)));
        Twins.refused("5: empty already", y -> y.begin(4), y -> {
            y.clear();
            return "";
        }, "");
        for (int kind = 0; kind < 4; kind++) {
            Maps z = of(3);
            Maps other = of(3);
            for (int wire = 0; wire < 3; wire++) {
                z.row(wire, 7 >> wire);
                other.row(wire, 7 >> wire);
            }
            z.way(kind);
            other.way(kind);
            z.add(7, 0, 3);
            z.clear();
            Check.due("5: modes, way and rows stay", Twins.later(z), Twins.later(other));
        }
        x.clear();
        fill(x);
        Check.due("5: room for 60 again", x.total(1), 60);
    }

    /** Promise 6: "NoSuchElementException: there is none such, or no such what." */
    private static void productsThatThereAre() {
        Maps x = full();
        for (int i = 0; i < 60; i++) {
            Check.due("6: U", Check.product(x, i, 0), i / 8);
            Check.due("6: D", Check.product(x, i, 1), i % 8);
            Check.due("6: number", Check.product(x, i, 2), i + 1);
        }
        for (int what = 0; what < 3; what++) {
            for (int i : new int[] {-1, 60, 61, 64, 256, MIN, MAX}) {
                Check.due("6: no product " + i, Check.product(x, i, what), Check.THROWS);
            }
        }
        for (int what : new int[] {-1, 3, 4, MIN, MAX}) {
            Check.due("6: no what " + what, Check.product(x, 0, what), Check.THROWS);
            Check.due("6: no what " + what, Check.product(x, 59, what), Check.THROWS);
            Check.due("6: neither", Check.product(x, 60, what), Check.THROWS);
            Check.due("6: neither", Check.product(x, -1, what), Check.THROWS);
        }
        x.add(0, 0, -1);
        Check.due("6: the last of 59", Check.product(x, 58, 2), "60");
        Check.due("6: no 60th", Check.product(x, 59, 2), Check.THROWS);
        Maps empty = of(8);
        for (int what = -1; what < 4; what++) {
            Check.due("6: empty", Check.product(empty, 0, what), Check.THROWS);
            Check.due("6: empty", Check.product(empty, -1, what), Check.THROWS);
        }
    }

    /** Promise 7: "NoSuchElementException: there are none such." */
    private static void statesThatThereAre() {
        for (int n = 1; n <= 8; n++) {
            int last = (1 << n) - 1;
            Maps x = of(n);
            Check.due("7: of an empty sum", Check.makes(x, last, last), "0");
            for (int round = 0; round < 2; round++) {
                for (int none : new int[] {-1, last + 1, last + 2, 256, MIN, MAX}) {
                    Check.due("7: from " + none, Check.makes(x, none, last), Check.THROWS);
                    Check.due("7: to " + none, Check.makes(x, last, none), Check.THROWS);
                    Check.due("7: both " + none, Check.makes(x, none, none), Check.THROWS);
                }
                x.add(last, 0, 3);
                x.add(0, 0, -4);
            }
            Check.due("7: from the first to the last", Check.makes(x, 0, last), "6");
            Check.due("7: the last", Check.makes(x, last, last), "-8");
            Check.due("7: the first", Check.makes(x, 0, 0), "-8");
        }
    }

    /** Promise 7: 60 PRODUCTS with the greatest numbers make 60 times as much. */
    private static void greatestNumberMade() {
        for (int sign : new int[] {1, -1}) {
            Maps x = of(8);
            for (int set = 0; set < 60; set++) {
                x.add(set, set, sign * oneByOne(set, set, 255, 255) * MOST);
            }
            Check.due("7: 60 together", x.makes(255, 255), sign * 60L * MOST);
            Check.due("7: one of them", x.makes(0, 0), sign * MOST);
        }
    }

    /** "An object is used for at most 512 calls": the 512th still answers as the first did. */
    private static void fiveHundredAndTwelveCalls() {
        Maps x = new Maps();
        for (int call = 1; call < 512; call += 7) {
            Check.due("begin", x.begin(1 + call % 8), true);
            Check.due("add", x.add(1, 0, 2 * call + 1), 1);
            Check.due("ladder", x.ladder(0, false, true), 2);
            Check.due("image", Check.image(x, 0, 2), 2 * call + 1);
            Check.due("no term", Check.image(x, 2, 0), Check.THROWS);
            Check.due("refused", x.add(0, 0, MOST), NONE);
            Check.due("total", x.total(3), 1);
        }
        Check.due("512th", Check.product(x, 1, 2), "-1011");
        Check.due("all of one object", x.calls(), 512);
    }

    /** "An object is used for at most 512 calls", whichever of them comes last. */
    private static void eachCallAsTheLast() {
        last("begin", x -> x.begin(2), true);
        last("add", x -> x.add(1, 1, 1), 2);
        last("ladder", x -> x.ladder(2, false, true), 2);
        last("clear", x -> {
            x.clear();
            return "";
        }, "");
        last("product", x -> x.product(0, 2), 5);
        last("no product", x -> Check.product(x, 1, 2), Check.THROWS);
        last("makes", x -> x.makes(3, 6), -5);
        last("no state", x -> Check.makes(x, 3, 8), Check.THROWS);
        last("way", x -> x.way(3), true);
        last("row", x -> x.row(1, 1), true);
        last("written", x -> x.written(5), 5);
        last("read", x -> x.read(5), 5);
        last("image", x -> x.image(3, 2), -5L);
        last("no term", x -> Check.image(x, 4, 2), Check.THROWS);
        last("total", x -> x.total(3), 3);
    }

    private static void last(String name, Function<Maps, Object> call, Object want) {
        Maps x = of(3);
        x.add(4, 1, 5);
        x.row(0, 7);
        while (x.calls() < Maps.MOST_CALLS - 1) {
            Check.due("one of 511", x.image(0, 1), 2);
        }
        Check.due(name + " as the 512th call", call.apply(x), want);
        Check.due(name + " of the same object", x.calls(), Maps.MOST_CALLS);
    }
}
