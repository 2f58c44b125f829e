import java.util.function.Consumer;
import java.util.function.Function;

/** For "changing nothing": of two objects with the same past, one alone gets the refused call. */
final class Twins {
    private static final int MOST_TERMS_READ = 40;
    private static final int MOST_STATES_READ = 32;

    private Twins() {
    }

    /** The call answers what is due, and both objects answer all later calls alike. */
    static void refused(String name, Consumer<Maps> past,
            Function<Maps, Object> call, Object want) {
        for (boolean asked : new boolean[] {false, true}) {
            Maps x = new Maps();
            Maps other = new Maps();
            past.accept(x);
            past.accept(other);
            if (asked) {
                Check.due(name + ", before", answers(x), answers(other));
            }
            Check.due(name, call.apply(x), want);
            Check.due(name + " changes nothing", later(x), later(other));
        }
    }

    /** A run of calls that brings to light all that an object keeps, rows for way 3 too. */
    static String later(Maps x) {
        StringBuilder text = new StringBuilder(answers(x));
        text.append(" add ").append(x.add(0, 0, 1)).append(answers(x));
        text.append(" ladder ").append(x.ladder(0, false, true)).append(answers(x));
        text.append(" way ").append(x.way(2)).append(answers(x));
        for (int wire = 0; wire < x.total(0) && !x.way(3); wire++) {
            text.append(" row ").append(x.row(wire, 1 << wire));
        }
        text.append(" way ").append(x.way(3)).append(answers(x));
        text.append(" row ").append(x.row(0, 1));
        x.clear();
        text.append(" add ").append(x.add(1, 0, 5)).append(answers(x));
        text.append(" begin ").append(x.begin(3)).append(x.add(7, 7, 9)).append(answers(x));
        text.append(" way ").append(x.way(3)).append(answers(x));
        return text.toString();
    }

    /** What an object answers without a change, the image first; of very much, some. */
    static String answers(Maps x) {
        StringBuilder text = new StringBuilder(" totals");
        for (int what = 0; what < 5; what++) {
            text.append(' ').append(x.total(what));
        }
        int terms = (int) x.image(FermionMaps.NONE, 0);
        text.append(" terms ").append(terms);
        for (int i = 0; i < terms; i += 1 + terms / MOST_TERMS_READ) {
            for (int what = 0; what < 4; what++) {
                text.append(' ').append(x.image(i, what));
            }
        }
        int last = (1 << x.total(0)) - 1;
        text.append(" states");
        for (int state = 0; state <= last; state += last / MOST_STATES_READ | 1) {
            text.append(' ').append(x.written(state)).append(' ').append(x.read(state));
            text.append(' ').append(x.makes(state, state));
            text.append(' ').append(x.makes(state, last - state));
        }
        return text.append(" sum ").append(Check.sum(x)).toString();
    }
}
