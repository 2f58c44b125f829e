/** Promises 1 to 7: a new object, begin, add, ladder, clear, product, makes. */
public final class SumTest {
    private static final int MIN = Integer.MIN_VALUE;
    private static final int MAX = Integer.MAX_VALUE;

    private SumTest() {
    }

    public static void main(String[] args) {
        newObject();
        begin();
        beginRefused();
        add();
        addRefused();
        addAtSixty();
        ladderSigns();
        ladderMeets();
        ladderRefused();
        ladderJudgedByItsEnd();
        clear();
        product();
        makes();
        makesRefused();
        Check.end();
    }

    private static Maps of(int n) {
        Maps x = new Maps();
        Check.due("begin(" + n + ")", x.begin(n), true);
        return x;
    }

    private static Maps of(int n, int ups, int downs, int number) {
        Maps x = of(n);
        Check.due("first add", x.add(ups, downs, number), 1);
        return x;
    }

    private static void newObject() {
        Maps x = new Maps();
        Check.due("1: all", Check.all(x), "||1 0 0 0 1 0 0 1 1 ");
        Check.due("1: add(2, 0, 1)", x.add(2, 0, 1), -1);
        Check.due("1: row(1, 1)", x.row(1, 1), false);
        Check.due("1: way(3), rows as of 0", x.way(3), true);
        Check.due("1: read(1)", x.read(1), 1);
        Maps other = new Maps();
        Check.due("1: add(1, 0, 1)", x.add(1, 0, 1), 1);
        Check.due("1: objects have nothing in common", Check.sum(other), "");
    }

    private static void begin() {
        for (int n = 1; n <= 8; n++) {
            Maps x = of(n, 1, 1, 3);
            int last = 1 << (n - 1);
            Check.due("2: row", x.row(n - 1, last | 1), true);
            Check.due("2: way(3)", x.way(3), true);
            Check.due("2: begin again", x.begin(n), true);
            Check.due("2: total(0)", x.total(0), n);
            Check.due("2: sum", Check.sum(x), "");
            Check.due("2: total(2)", x.total(2), 0);
            Check.due("2: image", x.image(-1, 0), 0);
            Check.due("2: way(3), rows as of 0", x.way(3), true);
            for (int state = 0; state < 1 << n; state++) {
                Check.due("2: written by rows as of 0", x.written(state), state);
                Check.due("2: read by rows as of 0", x.read(state), state);
            }
            Check.due("2: last set", x.written((1 << n) - 1), (1 << n) - 1);
            Check.due("2: beyond the last set", x.written(1 << n), -1);
        }
    }

    private static void beginRefused() {
        Maps x = of(3, 5, 2, 7);
        x.row(0, 7);
        x.way(3);
        String before = Check.all(x);
        for (int n : new int[] {0, 9, -1, -8, MIN, MAX, 256}) {
            Check.due("2: begin(" + n + ")", x.begin(n), false);
            Check.due("2: nothing changed", Check.all(x), before);
        }
    }

    private static void add() {
        Maps x = of(8);
        Check.due("3: add", x.add(2, 255, 4), 1);
        Check.due("3: add", x.add(3, 0, -5), 2);
        Check.due("3: add", x.add(0, 9, 1000000), 3);
        Check.due("3: add", x.add(255, 255, -1000000), 4);
        Check.due("3: add", x.add(2, 254, 6), 5);
        Check.due("3: order", Check.sum(x),
            "0,9,1000000 2,254,6 2,255,4 3,0,-5 255,255,-1000000");
        Check.due("3: same one", x.add(2, 255, -5), 5);
        Check.due("3: to 0", x.add(2, 254, -6), 4);
        Check.due("3: none of a new one", x.add(7, 7, 0), 4);
        Check.due("3: none of an old one", x.add(3, 0, 0), 4);
        Check.due("3: from end to end", x.add(0, 9, -1000000), 3);
        Check.due("3: last to 0", x.add(255, 255, 1000000), 2);
        Check.due("3: sum", Check.sum(x), "2,255,-1 3,0,-5");
    }

    private static void addRefused() {
        Maps x = of(2, 1, 2, 999999);
        x.add(2, 1, -999999);
        String before = Check.all(x);
        int[][] wrong = {{4, 0, 1}, {0, 4, 1}, {-1, 0, 1}, {0, -1, 1}, {MIN, 0, 1}, {0, MAX, 1},
            {4, 0, 0}, {0, 256, 0}, {0, 0, 1000001}, {0, 0, -1000001}, {0, 0, MIN}, {0, 0, MAX},
            {1, 2, 2}, {2, 1, -2}, {1, 2, 1000000}, {1, 2, -1000001}};
        for (int[] call : wrong) {
            Check.due("3: refused", x.add(call[0], call[1], call[2]), -1);
            Check.due("3: nothing changed", Check.all(x), before);
        }
        Check.due("3: up to the limit", x.add(1, 2, 1), 2);
        Check.due("3: down to the limit", x.add(2, 1, -1), 2);
        Check.due("3: sum", Check.sum(x), "1,2,1000000 2,1,-1000000");
    }

    private static void addAtSixty() {
        Maps x = of(3);
        for (int i = 0; i < 60; i++) {
            Check.due("3: count", x.add(7 - i / 8, 7 - i % 8, i + 1), i + 1);
        }
        String before = Check.all(x);
        Check.due("3: a 61st", x.add(0, 0, 1), -1);
        Check.due("3: a 61st", x.add(0, 3, -1), -1);
        Check.due("3: none of a 61st", x.add(0, 0, 0), 60);
        Check.due("3: nothing changed", Check.all(x), before);
        Check.due("3: an old one", x.add(7, 7, 5), 60);
        Check.due("3: one away", x.add(7, 6, -2), 59);
        Check.due("3: room again", x.add(0, 0, 1), 60);
        Check.due("3: first", Check.product(x, 0, 2), "1");
        Check.due("3: last", Check.product(x, 59, 2), "6");
    }

    private static String after(Maps x, int j, boolean up, boolean ahead) {
        int count = x.ladder(j, up, ahead);
        Check.due("4: answer is the count", count, x.total(1));
        return Check.sum(x);
    }

    private static void ladderSigns() {
        Check.due("4: up ahead", after(of(4, 1 | 8, 6, 3), 2, true, true), "13,6,-3");
        Check.due("4: up behind", after(of(4, 1 | 8, 2 | 8, 3), 2, true, false), "13,10,-3");
        Check.due("4: up behind, odd downs", after(of(4, 1 | 8, 2, 3), 2, true, false), "13,2,3");
        Check.due("4: down ahead", after(of(4, 1 | 2, 1 | 2, 3), 3, false, true), "3,11,3");
        Check.due("4: down ahead, odd ups", after(of(4, 1, 1 | 2, 3), 3, false, true), "1,11,-3");
        Check.due("4: down behind", after(of(4, 7, 4 | 8, 3), 0, false, false), "7,13,3");
        Check.due("4: down behind, odd", after(of(4, 7, 1 | 8, 3), 2, false, false), "7,13,-3");
        Check.due("4: up past one below", after(of(4, 1, 6, 3), 2, true, true), "5,6,-3");
        Check.due("4: up not past one above", after(of(4, 8, 6, 3), 2, true, true), "12,6,3");
        Check.due("4: up behind", after(of(4, 2 | 8, 0, 3), 2, true, false), "14,0,-3");
        Check.due("4: up behind", after(of(4, 2, 0, 3), 2, true, false), "6,0,3");
        Check.due("4: down ahead", after(of(4, 0, 1, 3), 1, false, true), "0,3,-3");
        Check.due("4: down ahead", after(of(4, 0, 8, 3), 1, false, true), "0,10,3");
        Check.due("4: down ahead", after(of(4, 0, 7, 3), 3, false, true), "0,15,-3");
        Check.due("4: down behind", after(of(4, 7, 1, 3), 2, false, false), "7,5,3");
        Check.due("4: down behind", after(of(4, 7, 8, 3), 2, false, false), "7,12,-3");
        Check.due("4: up twice", after(of(4, 4, 1, 3), 2, true, true), "");
        Check.due("4: up twice behind", after(of(4, 4, 1, 3), 2, true, false), "");
        Check.due("4: down twice", after(of(4, 1, 4, 3), 2, false, true), "");
        Check.due("4: down twice behind", after(of(4, 1, 4, 3), 2, false, false), "");
        Check.due("4: of nothing", after(of(8), 7, true, true), "");
        Check.due("4: the last mode", after(of(8, 0, 0, 1), 7, true, true), "128,0,1");
        Check.due("4: the last mode", after(of(8, 0, 0, 1), 7, false, false), "0,128,1");
    }

    private static void ladderMeets() {
        Check.due("4: down past its up", after(of(1, 1, 0, 5), 0, false, true), "0,0,5 1,1,-5");
        Check.due("4: up past its down", after(of(1, 0, 1, 5), 0, true, false), "0,0,5 1,1,-5");
        Check.due("4: no meeting", after(of(1, 1, 0, 5), 0, false, false), "1,1,5");
        Check.due("4: no meeting", after(of(1, 0, 1, 5), 0, true, true), "1,1,5");
        Check.due("4: both there", after(of(1, 1, 1, 5), 0, false, true), "0,1,5");
        Check.due("4: both there", after(of(1, 1, 1, 5), 0, true, false), "1,0,5");
        Check.due("4: sign at meeting", after(of(3, 3, 4, 5), 1, false, true), "1,4,-5 3,6,5");
        Check.due("4: sign at meeting", after(of(3, 4, 3, 5), 0, true, false), "4,2,-5 5,3,-5");
        Maps x = of(2, 0, 0, 4);
        x.add(1, 1, 4);
        Check.due("4: two come to one place", after(x, 0, false, true), "0,1,8");
        Maps y = of(2, 0, 0, 4);
        y.add(1, 1, -4);
        Check.due("4: two take each other away", after(y, 0, false, true), "");
    }

    private static void ladderRefused() {
        Maps x = of(3, 1, 2, 600000);
        String before = Check.all(x);
        for (int j : new int[] {-1, 3, 8, 32, MIN, MAX}) {
            Check.due("4: no such mode", x.ladder(j, true, true), -1);
            Check.due("4: no such mode", x.ladder(j, false, false), -1);
            Check.due("4: nothing changed", Check.all(x), before);
        }
        Maps y = of(2, 0, 0, 600000);
        y.add(1, 1, 600000);
        y.add(2, 2, 1);
        String was = Check.all(y);
        Check.due("4: number beyond", y.ladder(0, false, true), -1);
        Check.due("4: number beyond", y.ladder(0, true, false), -1);
        Check.due("4: nothing changed", Check.all(y), was);
        y.add(1, 1, -200000);
        Check.due("4: at the limit", after(y, 0, false, true), "0,1,1000000 2,3,-1");
        Check.due("4: refused on empty too", of(2).ladder(2, true, true), -1);
    }

    private static void ladderJudgedByItsEnd() {
        Maps x = of(8);
        for (int i = 0; i < 31; i++) {
            x.add(1 | 2 * i, 0, 1);
        }
        String before = Check.sum(x);
        Check.due("4: 62 of 31", x.ladder(0, false, true), -1);
        Check.due("4: nothing changed", Check.sum(x), before);
        x.add(1, 0, -1);
        Check.due("4: 60 of 30", x.ladder(0, false, true), 60);
        Check.due("4: 30 of 60", x.ladder(0, true, true), 30);
        Maps y = of(8);
        for (int i = 0; i < 30; i++) {
            y.add(2 * i, 0, 1000000);
            y.add(2 * i | 1, 1, Integer.bitCount(i) % 2 == 0 ? -1000000 : 1000000);
        }
        Check.due("4: 60 before", y.total(1), 60);
        Check.due("4: all 60 away two by two", y.ladder(0, false, true), 0);
    }

    private static void clear() {
        Maps x = of(4, 3, 5, 2);
        x.row(0, 3);
        x.way(3);
        Check.due("5: image before", x.image(-1, 0), 8);
        x.clear();
        Check.due("5: sum", Check.sum(x), "");
        Check.due("5: image", x.image(-1, 0), 0);
        Check.due("5: product", Check.product(x, 0, 0), Check.THROWS);
        Check.due("5: modes and way stay", x.total(0) + " " + x.total(2), "4 3");
        Check.due("5: rows stay", x.written(2), 3);
        x.clear();
        Check.due("5: again", x.total(1), 0);
        Check.due("5: then add", x.add(1, 1, 1), 1);
    }

    private static void product() {
        Maps x = of(8, 200, 100, -77);
        x.add(3, 255, 8);
        Check.due("6: U", Check.product(x, 1, 0), "200");
        Check.due("6: D", Check.product(x, 1, 1), "100");
        Check.due("6: number", Check.product(x, 1, 2), "-77");
        Check.due("6: first", Check.product(x, 0, 1), "255");
        int[][] none = {{2, 0}, {-1, 0}, {60, 1}, {MIN, 2}, {MAX, 2}, {0, 3}, {0, -1}, {1, MIN},
            {1, MAX}, {-1, 3}};
        for (int[] call : none) {
            Check.due("6: product(" + call[0] + ", " + call[1] + ")",
                Check.product(x, call[0], call[1]), Check.THROWS);
        }
        Check.due("6: nothing changed", Check.sum(x), "3,255,8 200,100,-77");
        x.ladder(0, false, false);
        Check.due("6: none left of those struck", Check.product(x, 1, 0), Check.THROWS);
    }

    private static void makes() {
        Maps x = of(3, 4, 1, 5);
        Check.due("7: moved", x.makes(1, 4), 5);
        Check.due("7: moved past one", x.makes(3, 6), -5);
        Check.due("7: not there", x.makes(2, 4), 0);
        Check.due("7: place taken", x.makes(5, 4), 0);
        Check.due("7: place taken", x.makes(5, 0), 0);
        Check.due("7: not there", x.makes(0, 5), 0);
        Check.due("7: another end", x.makes(1, 2), 0);
        Check.due("7: not the other way", x.makes(4, 1), 0);
        Maps y = of(3, 0, 6, 1);
        Check.due("7: greatest first", y.makes(6, 0), -1);
        Check.due("7: greatest first", y.makes(7, 1), -1);
        Maps z = of(3, 7, 0, 2);
        Check.due("7: ups greatest first", z.makes(0, 7), 2);
        Maps both = of(3, 6, 6, 3);
        Check.due("7: there and there again", both.makes(7, 7), -3);
        both.add(0, 0, 10);
        both.add(1, 1, 100);
        Check.due("7: all together", both.makes(7, 7), 107);
        Check.due("7: some", both.makes(1, 1), 110);
        Check.due("7: the empty product", both.makes(0, 0), 10);
        Check.due("7: nothing", both.makes(0, 1), 0);
        Maps great = of(8);
        for (int i = 0; i < 60; i++) {
            great.add(i, i, Integer.bitCount(i) % 4 > 1 ? -1000000 : 1000000);
        }
        Check.due("7: a great number", great.makes(255, 255), 60000000);
    }

    private static void makesRefused() {
        Maps x = of(3, 4, 1, 5);
        int[][] none = {{8, 0}, {0, 8}, {-1, 0}, {0, -1}, {MIN, 0}, {0, MAX}, {256, 256}};
        for (int[] call : none) {
            Check.due("7: makes(" + call[0] + ", " + call[1] + ")",
                Check.makes(x, call[0], call[1]), Check.THROWS);
        }
        Check.due("7: the last states", Check.makes(x, 7, 7), "0");
    }
}
