/** The edges of the ways, of the image and of promises 8 to 13, a test for each that is named. */
public final class WiresEdgesTest {
    private static final int MIN = Integer.MIN_VALUE;
    private static final int MAX = Integer.MAX_VALUE;
    private static final int NONE = FermionMaps.NONE;
    private static final int MOST = 1000000;

    private WiresEdgesTest() {
    }

    public static void main(String[] args) {
        rowsOfTheWays();
        waysThatThereAre();
        twoStatesAlike();
        rowsAlikeChangeNothing();
        wayThreeAgain();
        wiresAndSetsThatRowTakes();
        noRowByWayThree();
        statesThatAreWritten();
        wiresThatAreRead();
        termsForAnyWhat();
        termsThatThereAre();
        noTerms();
        leastK();
        numbersNotNought();
        greatestNumbers();
        orderOfTerms();
        mostTerms();
        imageMakesWhatTheSumMakes();
        totalsThatThereAre();
        widestTerm();
        asManyUpsAsDowns();
        Check.end();
    }

    private static Maps of(int n) {
        Maps x = new Maps();
        Check.due("begin(" + n + ")", x.begin(n), true);
        return x;
    }

    private static Maps of(int n, int ups, int downs, int number) {
        Maps x = of(n);
        Check.due("first add", x.add(ups, downs, number), 1);
        return x;
    }

    private static int bits(int[] rows, int n, int state) {
        int bits = 0;
        for (int wire = 0; wire < n; wire++) {
            bits |= Integer.bitCount(rows[wire] & state) % 2 << wire;
        }
        return bits;
    }

    /** "0 WIRE i: MODE i. 1 WIRE i: MODES 0 .. i. 2 WIRE i: MODES i - t + 1 .. i" */
    private static void rowsOfTheWays() {
        int[][] rows = {{1, 2, 4, 8, 16, 32, 64, 128}, {1, 3, 7, 15, 31, 63, 127, 255},
            {1, 3, 4, 15, 16, 48, 64, 255}};
        for (int n = 1; n <= 8; n++) {
            for (int kind = 0; kind < 3; kind++) {
                Maps x = of(n);
                Check.due("8: way", x.way(kind), true);
                for (int state = 0; state < 1 << n; state++) {
                    int bits = bits(rows[kind], n, state);
                    Check.due("10: " + state + " by way " + kind, x.written(state), bits);
                    Check.due("11: " + bits + " by way " + kind, x.read(bits), state);
                }
            }
        }
    }

    /** Promise 8: "false, changing nothing, if there is no such WAY" */
    private static void waysThatThereAre() {
        for (int n = 1; n <= 8; n++) {
            Maps x = of(n);
            for (int kind = 0; kind < 4; kind++) {
                Check.due("8: way(" + kind + ")", x.way(kind), true);
                Check.due("8: the way now", x.total(2), kind);
                for (int none : new int[] {-1, 4, 5, -4, MIN, MAX, MIN + 3}) {
                    Check.due("8: way(" + none + ")", x.way(none), false);
                    Check.due("8: the way still", x.total(2), kind);
                }
            }
        }
    }

    /** "Each STATE must be written otherwise.": all rows on one, two and three wires. */
    private static void twoStatesAlike() {
        for (int n = 1; n <= 3; n++) {
            Maps x = of(n);
            for (int all = 0; all < 1 << (n * n); all++) {
                x = all % 16 == 0 ? of(n) : x;
                int[] rows = new int[n];
                x.way(all % 3);
                for (int wire = 0; wire < n; wire++) {
                    rows[wire] = (all >> (wire * n)) % (1 << n);
                    Check.due("9: row", x.row(wire, rows[wire]), true);
                }
                boolean[] seen = new boolean[1 << n];
                boolean alike = false;
                for (int state = 0; state < 1 << n; state++) {
                    int bits = bits(rows, n, state);
                    alike |= seen[bits];
                    seen[bits] = true;
                }
                Check.due("8: rows " + all, x.way(3), !alike);
                Check.due("8: the way", x.total(2), alike ? all % 3 : 3);
                for (int state = 0; !alike && state < 1 << n; state++) {
                    Check.due("10: by rows", x.written(state), bits(rows, n, state));
                    Check.due("11: by rows", x.read(bits(rows, n, state)), state);
                }
            }
        }
        Maps x = of(8);
        for (int wire = 0; wire < 8; wire++) {
            x.row(wire, 255 - (1 << wire));
        }
        Check.due("8: all but one, on eight", x.way(3), true);
        Check.due("10: all but one", x.written(1) + " " + x.written(255), "254 255");
        Check.due("11: all but one", x.read(254) + " " + x.read(255), "1 255");
        x.way(0);
        x.row(7, 254);
        Check.due("8: the last as the first", x.way(3), false);
    }

    /** Promise 8: "false, changing nothing, if .. it is 3, and rows write two STATES alike." */
    private static void rowsAlikeChangeNothing() {
        for (int kind = 0; kind < 3; kind++) {
            int before = kind;
            for (int wrong : new int[] {0, 1, 2, 7}) {
                Twins.refused("8: rows alike", x -> {
                    x.begin(4);
                    x.way(before);
                    x.add(9, 6, 3);
                    x.row(0, 7);
                    x.row(1, 3);
                    x.row(2, 4);
                    x.row(3, wrong);
                }, x -> x.way(3), false);
            }
        }
        Twins.refused("8: one empty row", x -> x.row(0, 0), x -> x.way(3), false);
        Maps x = of(2);
        x.row(0, 3);
        x.row(1, 3);
        Check.due("8: alike", x.way(3), false);
        Check.due("9: the rows can be told again", x.row(0, 2), true);
        Check.due("8: not alike", x.way(3), true);
        Check.due("10: the other row is as it was told", x.written(1) + " " + x.written(2), "2 3");
    }

    /** Promise 8: "The WAY from now on: true", also if it is the same one. */
    private static void wayThreeAgain() {
        for (int kind = 0; kind < 4; kind++) {
            int same = kind;
            Twins.refused("8: the same way", x -> {
                x.begin(3);
                x.row(0, 6);
                x.row(1, 5);
                x.row(2, 7);
                x.add(1, 6, 2);
                x.way(same);
            }, x -> x.way(same), true);
        }
    }

    /** Promise 9: "false, changing nothing, if there is no such WIRE, or set" */
    private static void wiresAndSetsThatRowTakes() {
        for (int n = 1; n <= 8; n++) {
            int last = (1 << n) - 1;
            Maps x = of(n);
            for (int wire = 0; wire < n; wire++) {
                Check.due("9: the empty set", x.row(wire, 0), true);
                Check.due("8: an empty row", x.way(3), false);
                Check.due("9: the last set", x.row(wire, last), true);
                Check.due("8: the full row", x.way(3), true);
                Check.due("10: the full row", x.written(1) >> wire & 1, 1);
                x.way(0);
                x.row(wire, 1 << wire);
            }
            for (int none : new int[] {-1, n, n + 1, 8, 32, MIN, MAX}) {
                Check.due("9: no wire " + none, x.row(none, last), false);
                Check.due("9: no wire " + none, x.row(none, 0), false);
            }
            for (int none : new int[] {-1, last + 1, last + 2, 256, MIN, MAX}) {
                Check.due("9: no set " + none, x.row(0, none), false);
                Check.due("9: no set " + none, x.row(n - 1, none), false);
            }
            Check.due("9: nothing changed", x.way(3), true);
            for (int mode = 0; mode < n; mode++) {
                Check.due("9: nothing changed", x.written(1 << mode), 1 << mode);
            }
        }
    }

    /** Promise 9: "false, changing nothing, if .. the WAY is 3." */
    private static void noRowByWayThree() {
        for (int modes : new int[] {0, 1, 5, 6, 7}) {
            for (int wire = 0; wire < 3; wire++) {
                int at = wire;
                Twins.refused("9: by way 3", x -> {
                    x.begin(3);
                    x.row(2, 7);
                    x.way(3);
                }, x -> x.row(at, modes), false);
            }
        }
        Maps x = of(2);
        x.way(3);
        Check.due("9: by way 3, as it is", x.row(0, 1), false);
        for (int kind = 0; kind < 3; kind++) {
            x.way(kind);
            Check.due("9: by way " + kind, x.row(0, 3), true);
        }
        x.way(3);
        Check.due("9: by way 3", x.row(0, 3), false);
        x.begin(2);
        Check.due("9: after begin", x.row(0, 3), true);
    }

    /** Promise 10: "NONE if there is none such." */
    private static void statesThatAreWritten() {
        for (int n = 1; n <= 8; n++) {
            int last = (1 << n) - 1;
            Maps x = of(n);
            for (int kind = 0; kind < 4; kind++) {
                x.way(kind);
                Check.due("10: the first", x.written(0), 0);
                Check.due("10: the last", x.written(last) != NONE, true);
                for (int none : new int[] {-1, last + 1, last + 2, 256, MIN, MAX}) {
                    Check.due("10: written(" + none + ")", x.written(none), NONE);
                }
            }
        }
    }

    /** Promise 11: "NONE if there are no such WIRES." */
    private static void wiresThatAreRead() {
        for (int n = 1; n <= 8; n++) {
            int last = (1 << n) - 1;
            Maps x = of(n);
            for (int kind = 0; kind < 4; kind++) {
                x.way(kind);
                Check.due("11: the first", x.read(0), 0);
                Check.due("11: the last", x.written(x.read(last)), last);
                for (int none : new int[] {-1, last + 1, last + 2, 256, MIN, MAX}) {
                    Check.due("11: read(" + none + ")", x.read(none), NONE);
                }
            }
        }
    }

    /** Promise 12: "i NONE: how many TERMS (for any what)" */
    private static void termsForAnyWhat() {
        int[] whats = {0, 1, 2, 3, 4, -1, -2, MIN, MAX};
        for (int what : whats) {
            Check.due("12: of none", Check.image(of(8), NONE, what), "0");
            Check.due("12: of one", Check.image(of(8, 0, 0, 1), NONE, what), "1");
            Check.due("12: of 256", Check.image(of(8, 255, 0, 1), NONE, what), "256");
        }
    }

    /** Promise 12: "NoSuchElementException: there is none such, or no such what." */
    private static void termsThatThereAre() {
        Maps x = of(3, 4, 1, 5);
        for (int what = 0; what < 4; what++) {
            Check.due("12: the first", Check.image(x, 0, what), new int[] {5, 2, 5, 2}[what]);
            Check.due("12: the last", Check.image(x, 3, what), new int[] {5, 7, -5, 2}[what]);
            for (int i : new int[] {4, 5, -2, 256, MIN, MAX}) {
                Check.due("12: no term " + i, Check.image(x, i, what), Check.THROWS);
            }
        }
        for (int what : new int[] {-1, 4, 5, MIN, MAX}) {
            Check.due("12: no what " + what, Check.image(x, 0, what), Check.THROWS);
            Check.due("12: no what " + what, Check.image(x, 3, what), Check.THROWS);
            Check.due("12: neither", Check.image(x, 4, what), Check.THROWS);
            Check.due("12: neither", Check.image(x, -2, what), Check.THROWS);
        }
    }

    /** Promise 12: "there is none such": of an empty SUM no TERM, and so no k of one. */
    private static void noTerms() {
        for (int kind = 0; kind < 4; kind++) {
            Maps x = of(4, 8, 0, 3);
            x.way(kind);
            Check.due("12: two terms", x.image(NONE, 0), 2);
            Check.due("12: k", x.image(1, 3), 1);
            x.add(8, 0, -3);
            Check.due("12: no terms", x.image(NONE, 0), 0);
            for (int what = -1; what < 5; what++) {
                Check.due("12: no term", Check.image(x, 0, what), Check.THROWS);
                Check.due("12: no term", Check.image(x, 1, what), Check.THROWS);
            }
            Check.due("13: 0 without terms", x.total(3), 0);
        }
    }

    /** "all together divided by 2^k with the least k, 0 or more" */
    private static void leastK() {
        for (int n = 1; n <= 8; n++) {
            for (int power = 0; power <= 12; power++) {
                int k = Math.max(0, n - power);
                Maps x = of(n, (1 << n) - 1, 0, 3 << power);
                Check.due("12: k of 3 * 2^" + power, Check.image(x, 0, 3), k);
                long number = 3L << (power + k - n);
                Check.due("12: number", Math.abs(x.image(0, 2)), number);
                Check.due("12: number", Math.abs(x.image((1 << n) - 1, 2)), number);
                x.add(0, 0, 1);
                Check.due("12: one k for all", Check.image(x, 0, 3), k);
                Check.due("12: one k for all", Check.image(x, 0, 2), 1 << k);
            }
        }
        Maps x = of(1, 0, 0, -1);
        Check.due("12: k of 1", Check.image(x, 0, 3), "0");
        x.add(1, 1, 1);
        Check.due("12: k of halves", Check.terms(x), "0,0,-1 0,1,-1 /1");
        x.add(1, 1, 1);
        Check.due("12: k falls again", Check.terms(x), "0,1,-1 /0");
        Check.due("12: k by the first", Check.terms(pair(4, 2)), "0,0,3 0,1,-2 0,2,-1 /0");
        Check.due("12: k by the second", Check.terms(pair(1, 2)), "0,0,3 0,1,-1 0,2,-2 /1");
        Check.due("12: k by the third", Check.terms(pair(2, 1)), "0,0,3 0,1,-2 0,2,-1 /1");
        Check.due("12: k by the last two", Check.terms(pair(3, 1)), "0,0,4 0,1,-3 0,2,-1 /1");
        Maps flips = of(2, 3, 0, 8);
        Check.due("12: k by the first flips", Check.image(flips, 3, 3), "0");
        flips.add(1, 0, 1);
        Check.due("12: k by other flips", Check.image(flips, 5, 3), "1");
        flips.add(1, 2, 1);
        Check.due("12: k by flips alike", Check.image(flips, 0, 3), "2");
    }

    /** So often mode 0 that is there, and so often mode 1. */
    private static Maps pair(int first, int second) {
        Maps x = of(2, 1, 1, first);
        x.add(2, 2, second);
        return x;
    }

    /** "each with a whole number (not 0)": what is 0 together is no TERM. */
    private static void numbersNotNought() {
        Maps x = of(1, 1, 0, 7);
        x.add(0, 1, 7);
        Check.due("12: flip alone", Check.terms(x), "1,0,7 /0");
        x.add(0, 1, -14);
        Check.due("12: flip and sign alone", Check.terms(x), "1,1,7 /0");
        Maps y = of(8);
        for (int mode = 0; mode < 8; mode++) {
            y.add(1 << mode, 1 << mode, -2);
        }
        y.add(0, 0, 8);
        Check.due("12: signs alone", y.image(NONE, 0), 8);
        Check.due("12: the first", y.image(0, 1) + " " + y.image(0, 2), "1 1");
        Check.due("12: the last", y.image(7, 1) + " " + y.image(7, 2), "128 1");
        y.add(0, 0, 1);
        Check.due("12: and as it is", y.image(0, 1) + " " + y.image(0, 2), "0 1");
    }

    /** Numbers of an image beyond an int, on both sides. */
    private static void greatestNumbers() {
        for (int sign : new int[] {1, -1}) {
            Maps x = of(8);
            for (int set = 0; set < 255; set++) {
                if (Integer.bitCount(set) <= 2 || set > 240) {
                    boolean turned = Integer.bitCount(set) / 2 % 2 == 1;
                    x.add(set, set, turned ? -sign * MOST : sign * MOST);
                }
            }
            x.add(255, 255, sign);
            Check.due("12: 2^k", Check.image(x, 0, 3), "8");
            long greatest = 0;
            for (int i = 0; i < x.total(1) - 1; i++) {
                greatest += (long) MOST << (8 - Integer.bitCount(x.product(i, 0)));
            }
            Check.due("12: beyond an int", greatest > MAX, true);
            Check.due("12: the greatest", x.image(0, 2), sign * (greatest + 1));
        }
    }

    /** "in the order of 256 * F + S" */
    private static void orderOfTerms() {
        Maps x = of(8, 255, 0, 2);
        x.add(0, 0, 2);
        x.add(1, 0, 2);
        x.add(128, 128, 2);
        Check.due("12: as many", x.image(NONE, 0), 2 + 2 + 256);
        String[] due = {"0 0", "0 128", "1 0", "1 1", "255 0", "255 1"};
        for (int i = 0; i < due.length; i++) {
            Check.due("12: term " + i, x.image(i, 0) + " " + x.image(i, 1), due[i]);
        }
        Check.due("12: the last", x.image(259, 0) + " " + x.image(259, 1), "255 255");
        Check.due("12: back again", x.image(1, 0) + " " + x.image(1, 1), "0 128");
        Check.due("12: none behind", Check.image(x, 260, 0), Check.THROWS);
    }

    /** The most TERMS that a full SUM has. */
    private static void mostTerms() {
        Maps x = of(8);
        for (int i = 0; i < 60; i++) {
            x.add(255, 255 - i, i % 2 == 0 ? MOST : 1 - MOST);
        }
        for (int kind = 0; kind < 4; kind++) {
            x.way(kind);
            Check.due("12: most terms", x.image(NONE, 0), 60 * 256);
            Check.due("12: the first", Check.image(x, 0, 1), "0");
            Check.due("12: the last", Check.image(x, 60 * 256 - 1, 1), "255");
            Check.due("12: k", Check.image(x, 60 * 256 - 1, 3), "8");
            Check.due("12: none behind", Check.image(x, 60 * 256, 0), Check.THROWS);
            Check.due("13: widest", x.total(3), 8);
        }
    }

    /** "It makes of each written STATE what the SUM makes of the STATE, written." */
    private static void imageMakesWhatTheSumMakes() {
        Maps x = of(4);
        x.row(0, 15);
        x.row(2, 6);
        for (int i = 0; i < 60; i++) {
            x.add(i * 7 % 16, i * 5 % 16 ^ i / 16, i % 2 == 0 ? MOST - i : i - MOST);
        }
        for (int kind = 0; kind < 4; kind++) {
            Check.due("8: way", x.way(kind), true);
            int terms = (int) x.image(NONE, 0);
            long[][] made = new long[16][16];
            for (int i = 0; i < terms; i++) {
                for (int bits = 0; bits < 16; bits++) {
                    boolean turned = Long.bitCount(bits & x.image(i, 1)) % 2 == 1;
                    long number = x.image(i, 2);
                    made[bits][bits ^ (int) x.image(i, 0)] += turned ? -number : number;
                }
            }
            for (int from = 0; from < 16; from++) {
                for (int to = 0; to < 16; to++) {
                    Check.due("12: the same", made[x.written(from)][x.written(to)],
                        x.makes(from, to) << x.image(0, 3));
                }
            }
        }
    }

    /** Promise 13: "NONE for another what." */
    private static void totalsThatThereAre() {
        for (Maps x : new Maps[] {new Maps(), of(8), of(8, 255, 0, 1)}) {
            Check.due("13: the first", x.total(0) != NONE, true);
            Check.due("13: the last", x.total(4) != NONE, true);
            for (int what : new int[] {-1, 5, 6, -5, 256, MIN, MAX}) {
                Check.due("13: total(" + what + ")", x.total(what), NONE);
            }
        }
        for (int n = 1; n <= 8; n++) {
            Check.due("13: modes", of(n).total(0), n);
        }
        Maps x = of(8);
        for (int i = 0; i <= 60; i++) {
            Check.due("13: products", x.total(1), i);
            x.add(i, 255 - i, 1);
        }
        Check.due("13: no 61st", x.total(1), 60);
    }

    /** Promise 13: "the most WIRES that one TERM .. has (of F, or S, or both), 0 without TERMS" */
    private static void widestTerm() {
        for (int n = 1; n <= 8; n++) {
            Maps x = of(n);
            Check.due("13: without terms", x.total(3), 0);
            x.add(0, 0, 5);
            Check.due("13: a term without wires", x.total(3), 0);
            for (int mode = 0; mode < n; mode++) {
                x.add(1 << mode, 1 << mode, 1);
                Check.due("13: one wire of S", x.total(3), 1);
            }
            x.add((1 << n) - 1, (1 << n) - 1, 1);
            Check.due("13: all wires of S", x.total(3), n);
            x.clear();
            Check.due("13: without terms", x.total(3), 0);
            x.add(1 << (n - 1), 0, 1);
            Check.due("13: F and S, those of both once", x.total(3), n);
        }
        Maps flips = of(8, 1, 0, 1);
        flips.add(0, 1, 1);
        Check.due("13: one wire of F", flips.total(3), 1);
        flips.way(1);
        Check.due("13: all wires of F", flips.total(3), 8);
        for (int n = 1; n <= 8; n++) {
            Maps both = of(n, 1, 0, 1);
            both.add(0, 1, -1);
            Check.due("12: F and S alike", Check.terms(both), "1,1,1 /0");
            Check.due("13: one wire of both", both.total(3), 1);
            both.way(1);
            Check.due("12: F has S", Check.terms(both), ((1 << n) - 1) + ",1,1 /0");
            Check.due("13: all wires of F, one of S", both.total(3), n);
        }
    }

    /** Promise 13: "1 if .. each PRODUCT has as many UPS as DOWNS, else 0" */
    private static void asManyUpsAsDowns() {
        Maps x = of(8);
        Check.due("13: no product", x.total(4), 1);
        Check.due("13: one up alone", of(8, 1, 0, 1).total(4), 0);
        Check.due("13: one down alone", of(8, 0, 128, 1).total(4), 0);
        x.add(0, 0, 1);
        Check.due("13: the empty product", x.total(4), 1);
        x.add(255, 255, 1);
        x.add(15, 240, 1);
        Check.due("13: as many", x.total(4), 1);
        int[][] uneven = {{0, 1}, {1, 0}, {255, 254}, {127, 255}, {3, 128}};
        for (int[] sets : uneven) {
            x.add(sets[0], sets[1], 1);
            Check.due("13: not as many", x.total(4), 0);
            x.add(sets[0], sets[1], -1);
            Check.due("13: as many again", x.total(4), 1);
        }
        Maps last = of(8);
        for (int i = 0; i < 59; i++) {
            last.add(i, i, 1);
        }
        last.add(255, 127, 1);
        Check.due("13: the 60th has not as many", last.total(4), 0);
    }
}
