import java.lang.reflect.Constructor;
import java.lang.reflect.Field;
import java.lang.reflect.Method;
import java.lang.reflect.Modifier;
import java.util.Arrays;
import java.util.NoSuchElementException;
import java.util.TreeSet;

/** The public face is the document's, and no member beside it can be seen. */
public final class FaceTest {
    private static final String[] METHODS = {
        "public boolean FermionMaps.begin(int)",
        "public boolean FermionMaps.row(int,int)",
        "public boolean FermionMaps.way(int)",
        "public int FermionMaps.add(int,int,int)",
        "public int FermionMaps.ladder(int,boolean,boolean)",
        "public int FermionMaps.product(int,int) throws java.util.NoSuchElementException",
        "public int FermionMaps.read(int)",
        "public int FermionMaps.total(int)",
        "public int FermionMaps.written(int)",
        "public long FermionMaps.image(int,int) throws java.util.NoSuchElementException",
        "public long FermionMaps.makes(int,int) throws java.util.NoSuchElementException",
        "public void FermionMaps.clear()"
    };

    private FaceTest() {
    }

    public static void main(String[] args) {
        Check.due("NONE", FermionMaps.NONE, -1);
        Check.due("modifiers", FermionMaps.class.getModifiers(), Modifier.PUBLIC | Modifier.FINAL);
        TreeSet<String> methods = new TreeSet<>();
        TreeSet<String> names = new TreeSet<>();
        TreeSet<String> hidden = new TreeSet<>();
        for (Method method : FermionMaps.class.getDeclaredMethods()) {
            if (Modifier.isPrivate(method.getModifiers())) {
                hidden.add(method.getName());
            } else {
                methods.add(method.toString());
                names.add(method.getName());
            }
        }
        Check.due("methods", methods, new TreeSet<>(Arrays.asList(METHODS)));
        for (Field field : FermionMaps.class.getDeclaredFields()) {
            if (!Modifier.isPrivate(field.getModifiers())) {
                Check.due("field", field, "public static final int FermionMaps.NONE");
            }
        }
        Constructor<?>[] constructors = FermionMaps.class.getDeclaredConstructors();
        Check.due("constructors", Arrays.toString(constructors), "[public FermionMaps()]");
        for (Class<?> inner : FermionMaps.class.getDeclaredClasses()) {
            Check.due(inner + " static", Modifier.isStatic(inner.getModifiers()), true);
            Check.due(inner + " seen outside", Modifier.isPublic(inner.getModifiers())
                || Modifier.isProtected(inner.getModifiers()), false);
            for (Method method : inner.getDeclaredMethods()) {
                hidden.add(method.getName());
            }
        }
        hidden.retainAll(names);
        Check.due("hidden methods with a public one's name", hidden, "[]");
        onlyThatExceptionClass();
        Check.end();
    }

    /** A class above or below NoSuchElementException would not be what the document names. */
    private static void onlyThatExceptionClass() {
        FermionMaps x = new FermionMaps();
        for (int call = 0; call < 3; call++) {
            Class<?> thrown = null;
            try {
                if (call == 0) {
                    x.product(0, 0);
                } else if (call == 1) {
                    x.makes(2, 0);
                } else {
                    x.image(0, 0);
                }
            } catch (RuntimeException e) {
                thrown = e.getClass();
            }
            Check.due("thrown by call " + call, thrown, NoSuchElementException.class);
        }
    }
}
