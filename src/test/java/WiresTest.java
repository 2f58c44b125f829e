/** Promises 8 to 13: way, row, written, read, image, total. */
public final class WiresTest {
    private static final int MIN = Integer.MIN_VALUE;
    private static final int MAX = Integer.MAX_VALUE;

    private WiresTest() {
    }

    public static void main(String[] args) {
        ways();
        wayRefused();
        wayTold();
        row();
        writtenAndRead();
        imageOfLadders();
        imageByWays();
        imageFollowsChanges();
        imageNumbers();
        imageRefused();
        imageAtItsGreatest();
        totals();
        Check.end();
    }

    private static Maps of(int n) {
        Maps x = new Maps();
        Check.due("begin(" + n + ")", x.begin(n), true);
        return x;
    }

    private static Maps of(int n, int ups, int downs, int number) {
        Maps x = of(n);
        Check.due("first add", x.add(ups, downs, number), 1);
        return x;
    }

    /** How each mode alone is written. */
    private static String written(Maps x) {
        StringBuilder text = new StringBuilder();
        for (int mode = 0; mode < x.total(0); mode++) {
            text.append(x.written(1 << mode)).append(' ');
        }
        return text.toString().trim();
    }

    private static void ways() {
        Maps x = of(8);
        Check.due("8: way 0", written(x), "1 2 4 8 16 32 64 128");
        Check.due("8: way(1)", x.way(1), true);
        Check.due("8: way 1", written(x), "255 254 252 248 240 224 192 128");
        Check.due("8: way(2)", x.way(2), true);
        Check.due("8: way 2", written(x), "139 138 140 136 176 160 192 128");
        Check.due("8: way(3)", x.way(3), true);
        Check.due("8: way 3", written(x), "1 2 4 8 16 32 64 128");
        Check.due("8: way(3) again", x.way(3), true);
        Check.due("8: way(0)", x.way(0), true);
        Check.due("8: total(2)", x.total(2), 0);
        Maps y = of(6);
        y.way(2);
        Check.due("8: way 2 on six", written(y), "11 10 12 8 48 32");
        Maps z = of(1, 1, 0, 1);
        for (int kind = 0; kind < 4; kind++) {
            Check.due("8: one mode", z.way(kind), true);
            Check.due("8: one mode", z.written(1) + " " + z.read(1), "1 1");
        }
    }

    private static void wayRefused() {
        Maps x = of(3, 4, 1, 5);
        x.way(2);
        String before = Check.all(x);
        for (int kind : new int[] {-1, 4, MIN, MAX, 7}) {
            Check.due("8: way(" + kind + ")", x.way(kind), false);
            Check.due("8: nothing changed", Check.all(x), before);
        }
        int[][] alike = {{0, 2, 4}, {1, 1, 4}, {3, 5, 6}, {7, 7, 7}, {1, 2, 3}, {0, 0, 0}};
        for (int[] rows : alike) {
            for (int wire = 0; wire < 3; wire++) {
                Check.due("9: row", x.row(wire, rows[wire]), true);
            }
            Check.due("8: two alike", x.way(3), false);
            Check.due("8: nothing changed", Check.all(x), before);
        }
    }

    private static void wayTold() {
        Maps x = of(3);
        int[] rows = {6, 5, 7};
        for (int wire = 0; wire < 3; wire++) {
            x.row(wire, rows[wire]);
        }
        Check.due("8: rows wait", written(x), "1 2 4");
        Check.due("8: told rows", x.way(3), true);
        Check.due("8: written", written(x), "6 5 7");
        Check.due("8: read", x.read(1) + " " + x.read(2) + " " + x.read(4), "5 6 7");
        x.way(1);
        Check.due("8: rows are kept", x.way(3), true);
        Check.due("8: written", written(x), "6 5 7");
    }

    private static void row() {
        Maps x = of(3);
        int[][] wrong = {{-1, 1}, {3, 1}, {MIN, 1}, {MAX, 1}, {8, 1}, {0, -1}, {0, 8}, {0, MIN},
            {0, MAX}};
        for (int[] call : wrong) {
            Check.due("9: row(" + call[0] + ", " + call[1] + ")", x.row(call[0], call[1]), false);
        }
        Check.due("9: nothing changed", x.way(3), true);
        Check.due("9: nothing changed", written(x), "1 2 4");
        Check.due("9: not by way 3", x.row(0, 7), false);
        Check.due("9: not by way 3", written(x), "1 2 4");
        for (int kind = 0; kind < 3; kind++) {
            x.way(kind);
            Check.due("9: by way " + kind, x.row(kind, 7), true);
            String rowsWait = written(x);
            Check.due("9: no way 0 to 2 is changed", x.way(kind), true);
            Check.due("9: no way 0 to 2 is changed", written(x), rowsWait);
            Check.due("9: back", x.row(kind, 1 << kind), true);
        }
        x.row(2, 0);
        Check.due("9: the empty set", x.way(3), false);
        x.row(2, 7);
        Check.due("9: told twice", x.way(3), true);
        Check.due("9: the last told", written(x), "5 6 4");
    }

    private static void writtenAndRead() {
        Maps x = of(5);
        x.row(0, 31);
        for (int kind = 0; kind < 4; kind++) {
            x.way(kind);
            for (int state = 0; state < 32; state++) {
                Check.due("11: read what is written", x.read(x.written(state)), state);
                Check.due("10: write what is read", x.written(x.read(state)), state);
            }
            for (int none : new int[] {-1, 32, 256, MIN, MAX}) {
                Check.due("10: written(" + none + ")", x.written(none), -1);
                Check.due("11: read(" + none + ")", x.read(none), -1);
            }
        }
        Check.due("10: rows", x.written(0b10110), 0b10111);
        x.way(1);
        Check.due("10: way 1", x.written(0b10110), 0b10010);
        Check.due("11: way 1", x.read(0b10010), 0b10110);
        x.way(2);
        Check.due("10: way 2", x.written(0b01011), 0b01001);
        Check.due("11: way 2", x.read(0b01001), 0b01011);
    }

    private static void imageOfLadders() {
        Check.due("12: up", Check.terms(of(1, 1, 0, 1)), "1,0,1 1,1,1 /1");
        Check.due("12: down", Check.terms(of(1, 0, 1, 1)), "1,0,1 1,1,-1 /1");
        Check.due("12: up 2", Check.terms(of(3, 4, 0, 1)), "4,3,1 4,7,1 /1");
        Check.due("12: there", Check.terms(of(2, 2, 2, 1)), "0,0,1 0,2,-1 /1");
        Check.due("12: as it is", Check.terms(of(8, 0, 0, -9)), "0,0,-9 /0");
        Maps hop = of(2, 1, 2, 1);
        hop.add(2, 1, 1);
        Check.due("12: there and back", Check.terms(hop), "3,0,1 3,3,-1 /1");
        Check.due("12: nothing", Check.terms(of(3)), "");
    }

    private static void imageByWays() {
        Maps x = of(3, 2, 0, 1);
        x.way(1);
        Check.due("12: way 1", Check.terms(x), "6,1,1 6,2,1 /1");
        x.way(2);
        Check.due("12: way 2", Check.terms(x), "2,1,1 2,2,1 /1");
        x.way(0);
        x.row(0, 7);
        x.way(3);
        Check.due("12: way 3", Check.terms(x), "3,5,1 3,7,1 /1");
    }

    private static void imageFollowsChanges() {
        Maps x = of(2, 1, 0, 2);
        Check.due("12: first", Check.terms(x), "1,0,1 1,1,1 /0");
        x.add(1, 0, -1);
        Check.due("12: after add", Check.terms(x), "1,0,1 1,1,1 /1");
        x.add(1, 0, 0);
        x.add(9, 0, 1);
        Check.due("12: after none", Check.terms(x), "1,0,1 1,1,1 /1");
        x.ladder(0, false, true);
        Check.due("12: after ladder", Check.terms(x), "0,0,1 0,1,1 /1");
        x.ladder(0, true, true);
        Check.due("12: after ladder", Check.terms(x), "1,0,1 1,1,1 /1");
        x.way(1);
        Check.due("12: after way", Check.terms(x), "3,0,1 3,1,1 /1");
        x.begin(1);
        Check.due("12: after begin", Check.terms(x), "");
        x.add(1, 0, 1);
        Check.due("12: after begin", Check.terms(x), "1,0,1 1,1,1 /1");
        x.clear();
        Check.due("12: after clear", Check.terms(x), "");
    }

    private static void imageNumbers() {
        Check.due("12: k 0", Check.terms(of(2, 3, 3, 8)), "0,0,-2 0,1,2 0,2,2 0,3,-2 /0");
        Check.due("12: k 1", Check.terms(of(2, 3, 3, 6)), "0,0,-3 0,1,3 0,2,3 0,3,-3 /1");
        Check.due("12: k 2", Check.terms(of(2, 3, 3, 5)), "0,0,-5 0,1,5 0,2,5 0,3,-5 /2");
        Maps x = of(2, 3, 3, 1);
        x.add(0, 0, 1000000);
        Check.due("12: one k for all", Check.terms(x), "0,0,3999999 0,1,1 0,2,1 0,3,-1 /2");
        Maps half = of(2, 0, 0, 1);
        half.add(2, 2, -2);
        Check.due("12: one goes away", Check.terms(half), "0,2,1 /0");
        Maps great = of(8, 255, 255, 1);
        for (int set = 0; set < 256; set++) {
            if (Integer.bitCount(set) <= 2) {
                great.add(set, set, Integer.bitCount(set) == 2 ? -1000000 : 1000000);
            }
        }
        Check.due("12: more than an int", Check.image(great, 0, 2), "3072000001");
        Check.due("12: k 8", Check.image(great, 0, 3), "8");
    }

    private static void imageRefused() {
        Maps x = of(3, 4, 1, 5);
        Check.due("12: terms", Check.image(x, -1, 0), "4");
        for (int what : new int[] {1, 2, 3, 4, -1, MIN, MAX}) {
            Check.due("12: for any what", Check.image(x, -1, what), "4");
        }
        int[][] none = {{4, 0}, {4, 3}, {-2, 0}, {-2, 3}, {MIN, 0}, {MAX, 0}, {MAX, 3}, {0, 4},
            {0, -1}, {3, MIN}, {3, MAX}, {4, 4}};
        for (int[] call : none) {
            Check.due("12: image(" + call[0] + ", " + call[1] + ")",
                Check.image(x, call[0], call[1]), Check.THROWS);
        }
        for (int i = 0; i < 4; i++) {
            Check.due("12: k of each", Check.image(x, i, 3), "2");
        }
        Maps empty = of(3);
        Check.due("12: no k without terms", Check.image(empty, 0, 3), Check.THROWS);
        Check.due("12: no terms, for any what", Check.image(empty, -1, 9), "0");
    }

    /** The most terms that there can be: 60 products that touch all modes, each with other flips. */
    private static void imageAtItsGreatest() {
        Maps x = of(8);
        for (int i = 0; i < 60; i++) {
            x.add(255, i, 1000000 - i);
        }
        for (int kind = 0; kind < 4; kind++) {
            x.way(kind);
            Check.due("12: most terms", x.image(-1, 0), 60 * 256);
            Check.due("13: widest", x.total(3), 8);
            Check.due("12: k", x.image(60 * 256 - 1, 3), 8);
            long last = -1;
            for (int i = 0; i < 60 * 256; i++) {
                long place = 256 * x.image(i, 0) + x.image(i, 1);
                Check.due("12: order", place > last, true);
                last = place;
            }
            Check.due("12: beyond", Check.image(x, 60 * 256, 0), Check.THROWS);
        }
    }

    private static String totals(Maps x) {
        StringBuilder text = new StringBuilder();
        for (int what = 0; what < 5; what++) {
            text.append(x.total(what)).append(' ');
        }
        return text.toString().trim();
    }

    private static void totals() {
        Check.due("13: empty", totals(of(5)), "5 0 0 0 1");
        Maps x = of(5, 16, 1, 1);
        Check.due("13: a hop", totals(x), "5 1 0 5 1");
        x.way(1);
        Check.due("13: a hop by way 1", totals(x), "5 1 1 5 1");
        x.way(2);
        x.add(1, 16, 7);
        Check.due("13: two by way 2", totals(x), "5 2 2 4 1");
        x.add(3, 16, 7);
        Check.due("13: not as many", totals(x), "5 3 2 4 0");
        x.clear();
        Check.due("13: cleared", totals(x), "5 0 2 0 1");
        x.add(0, 0, 4);
        Check.due("13: the empty product", totals(x), "5 1 2 0 1");
        Maps signs = of(4, 8, 8, 2);
        Check.due("13: signs alone", totals(signs), "4 1 0 1 1");
        Maps both = of(4, 4, 0, 2);
        Check.due("13: both", totals(both), "4 1 0 3 0");
        Maps flips = of(4, 1, 0, 1);
        flips.add(0, 1, 1);
        flips.way(1);
        Check.due("13: flips alone", totals(flips), "4 2 1 4 0");
        Check.due("13: its image", Check.terms(flips), "15,0,1 /0");
        for (int what : new int[] {-1, 5, MIN, MAX}) {
            Check.due("13: total(" + what + ")", flips.total(what), -1);
        }
    }
}
