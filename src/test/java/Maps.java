import java.util.ArrayList;
import java.util.List;
import java.util.function.Function;

/**
 * The face of FermionMaps, for tests that ask much. What an object answers after its 512th call is
 * free: so before a 513th one a new object takes its place, and first gets all calls that the old
 * one has had but mere questions; refused calls too, since they might have changed something.
 */
final class Maps {
    static final int MOST_CALLS = 512;

    private final List<Function<FermionMaps, ?>> past = new ArrayList<>();
    private FermionMaps maps = new FermionMaps();
    private int calls = 0;

    /** How many calls the object in use has had. */
    int calls() {
        return calls;
    }

    /** Another one with the same past, for questions that are not to count here. */
    Maps again() {
        Maps other = new Maps();
        other.past.addAll(past);
        other.renew();
        return other;
    }

    boolean begin(int n) {
        return changing(x -> x.begin(n));
    }

    int add(int ups, int downs, int number) {
        return changing(x -> x.add(ups, downs, number));
    }

    int ladder(int j, boolean up, boolean ahead) {
        return changing(x -> x.ladder(j, up, ahead));
    }

    void clear() {
        changing(x -> {
            x.clear();
            return 0;
        });
    }

    boolean way(int kind) {
        return changing(x -> x.way(kind));
    }

    boolean row(int wire, int modes) {
        return changing(x -> x.row(wire, modes));
    }

    int product(int i, int what) {
        return asking().product(i, what);
    }

    long makes(int from, int to) {
        return asking().makes(from, to);
    }

    int written(int state) {
        return asking().written(state);
    }

    int read(int wires) {
        return asking().read(wires);
    }

    long image(int i, int what) {
        return asking().image(i, what);
    }

    int total(int what) {
        return asking().total(what);
    }

    private <T> T changing(Function<FermionMaps, T> call) {
        FermionMaps now = asking();
        past.add(call);
        return call.apply(now);
    }

    private FermionMaps asking() {
        if (calls == MOST_CALLS) {
            renew();
        }
        calls++;
        return maps;
    }

    private void renew() {
        if (past.size() >= MOST_CALLS) {
            throw new IllegalStateException("a test that changes one object too often");
        }
        maps = new FermionMaps();
        for (Function<FermionMaps, ?> call : past) {
            call.apply(maps);
        }
        calls = past.size();
    }
}
