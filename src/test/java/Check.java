import java.util.NoSuchElementException;

/** Counts and prints the answers that are not as due; end() gives the exit code. */
final class Check {
    static final String THROWS = "throws.NoSuchElementException";

    private static int wrong = 0;

    private Check() {
    }

    static void due(String call, Object got, Object want) {
        String gotText = String.valueOf(got);
        String wantText = String.valueOf(want);
        if (!gotText.equals(wantText)) {
            wrong++;
            if (wrong <= 50) {
                System.out.println(call + " answered " + cut(gotText) + ", due is "
                    + cut(wantText));
            }
        }
    }

    private static String cut(String text) {
        return text.length() <= 300 ? text : text.substring(0, 300) + " ..";
    }

    static String product(Maps x, int i, int what) {
        try {
            return String.valueOf(x.product(i, what));
        } catch (NoSuchElementException e) {
            return THROWS;
        }
    }

    static String makes(Maps x, int from, int to) {
        try {
            return String.valueOf(x.makes(from, to));
        } catch (NoSuchElementException e) {
            return THROWS;
        }
    }

    static String image(Maps x, int i, int what) {
        try {
            return String.valueOf(x.image(i, what));
        } catch (NoSuchElementException e) {
            return THROWS;
        }
    }

    /** The whole sum as text: U,D,number for each product. */
    static String sum(Maps x) {
        StringBuilder text = new StringBuilder();
        int count = x.total(1);
        for (int i = 0; i < count; i++) {
            text.append(x.product(i, 0)).append(',').append(x.product(i, 1)).append(',');
            text.append(x.product(i, 2)).append(' ');
        }
        return text.toString().trim();
    }

    /** The whole image as text: F,S,number for each term, then /k if there is a term. */
    static String terms(Maps x) {
        StringBuilder text = new StringBuilder();
        long count = x.image(FermionMaps.NONE, 0);
        for (int i = 0; i < count; i++) {
            text.append(x.image(i, 0)).append(',').append(x.image(i, 1)).append(',');
            text.append(x.image(i, 2)).append(' ');
        }
        if (count > 0) {
            text.append('/').append(x.image(0, 3));
        }
        return text.toString().trim();
    }

    /** All that can be asked without a change, for "changing nothing". */
    static String all(Maps x) {
        StringBuilder text = new StringBuilder(sum(x)).append('|').append(terms(x)).append('|');
        for (int what = 0; what < 5; what++) {
            text.append(x.total(what)).append(' ');
        }
        for (int state = 0; state < 1 << x.total(0); state++) {
            text.append(x.written(state)).append(' ').append(x.read(state)).append(' ');
        }
        return text.toString();
    }

    static void end() {
        if (wrong != 0) {
            System.out.println(wrong + " answers are not as due");
            System.exit(1);
        }
    }
}
