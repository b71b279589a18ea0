import java.lang.reflect.Constructor;
import java.lang.reflect.Field;
import java.lang.reflect.Method;
import java.lang.reflect.Modifier;
import java.util.Set;
import java.util.TreeSet;

// The members that are not private are those of the document's face, and the rules of LANGUAGE.md
// that can be seen in the compiled class hold.
public final class FaceTest {
    private static int wrong = 0;

    private static void due(String what, Object got, Object want) {
        if (!got.equals(want)) {
            wrong++;
            System.out.println(what + ": " + got + ", due is " + want);
        }
    }

    private static void members() {
        Set<String> face = new TreeSet<>();
        for (Field f : CycleBasis.class.getDeclaredFields()) {
            if (!Modifier.isPrivate(f.getModifiers())) {
                face.add(f.toString());
            }
        }
        for (Method m : CycleBasis.class.getDeclaredMethods()) {
            if (!Modifier.isPrivate(m.getModifiers())) {
                face.add(m.toString());
            }
        }
        for (Constructor<?> c : CycleBasis.class.getDeclaredConstructors()) {
            face.add(c.toString());
        }
        due("the face", face, new TreeSet<>(Set.of(
            "public static final int CycleBasis.BAD_VERTEX",
            "public static final int CycleBasis.BAD_WEIGHT",
            "public static final int CycleBasis.FULL",
            "public static final int CycleBasis.NO_EDGE",
            "public static final int CycleBasis.NONE",
            "public CycleBasis()",
            "public int CycleBasis.edge(int,int,int)",
            "public int CycleBasis.reweigh(int,int)",
            "public int CycleBasis.dropLast()",
            "public int CycleBasis.rank()",
            "public int CycleBasis.total()",
            "public int CycleBasis.part(int)",
            "public int CycleBasis.through(int)",
            "public boolean CycleBasis.closed(int)",
            "public int CycleBasis.level(int)",
            "public int CycleBasis.bridges()")));
        due("the class", Modifier.toString(CycleBasis.class.getModifiers()), "public final");
        due("nested classes", CycleBasis.class.getDeclaredClasses().length, 0);
    }

    private static void constants() {
        due("BAD_VERTEX", CycleBasis.BAD_VERTEX, -1);
        due("BAD_WEIGHT", CycleBasis.BAD_WEIGHT, -2);
        due("FULL", CycleBasis.FULL, -3);
        due("NO_EDGE", CycleBasis.NO_EDGE, -4);
        due("NONE", CycleBasis.NONE, -5);
    }

    private static void privateNames() {
        Set<String> open = new TreeSet<>();
        for (Method m : CycleBasis.class.getMethods()) {
            open.add(m.getName());
        }
        for (Method m : CycleBasis.class.getDeclaredMethods()) {
            if (Modifier.isPrivate(m.getModifiers())) {
                due("a private method has the public name " + m.getName(), open.contains(m.getName()), false);
            }
        }
    }

    public static void main(String[] args) {
        members();
        constants();
        privateNames();
        if (wrong != 0) {
            System.exit(1);
        }
    }
}
