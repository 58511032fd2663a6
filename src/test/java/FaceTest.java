import java.lang.reflect.Constructor;
import java.lang.reflect.Field;
import java.lang.reflect.Method;
import java.lang.reflect.Modifier;
import java.util.Set;
import java.util.TreeSet;

/** The public face is the document's, and nothing beside it is seen from outside. */
public final class FaceTest {
    private static final String INDEX = " throws java.lang.IndexOutOfBoundsException";
    private static final String ARGUMENT = "java.lang.IllegalArgumentException";

    private static int wrong = 0;

    private static void due(String what, Object got, Object want) {
        if (!got.equals(want)) {
            wrong++;
            System.out.println(what + " is " + got + ", due is " + want);
        }
    }

    public static void main(String[] args) throws ReflectiveOperationException {
        Class<?> face = EffectNets.class;
        due("the class", Modifier.toString(face.getModifiers()), "public final");
        due("the methods", methods(face), new TreeSet<>(Set.of(
                "public int EffectNets.variable(int) throws " + ARGUMENT,
                "public int EffectNets.atom(int) throws " + ARGUMENT,
                "public int EffectNets.has(int,int)" + INDEX,
                "public int EffectNets.includes(int,int)" + INDEX,
                "public int EffectNets.one(int,int)" + INDEX,
                "public int EffectNets.shrink()",
                "public int EffectNets.copy(int,int)" + INDEX + "," + ARGUMENT,
                "public int EffectNets.mark()",
                "public int EffectNets.back() throws java.lang.IllegalStateException",
                "public int EffectNets.set(int)" + INDEX,
                "public int EffectNets.seen(int,int)" + INDEX,
                "public long EffectNets.reach(int)" + INDEX,
                "public int EffectNets.of(int,int)" + INDEX,
                "public int EffectNets.ofAtom(int,int)" + INDEX,
                "public int EffectNets.way(int,int,int)" + INDEX,
                "public int EffectNets.count(int)")));
        due("the fields", fields(face), Set.of("public static final int EffectNets.NONE"));
        due("NONE", EffectNets.NONE, -1);
        due("the constructors", constructors(face), Set.of("public EffectNets()"));
        noPrivateMethodWithAPublicName(face);
        System.out.println(wrong == 0 ? "the face is as due" : wrong + " parts of the face are not as due");
        if (wrong != 0) {
            System.exit(1);
        }
    }

    private static Set<String> methods(Class<?> face) {
        Set<String> seen = new TreeSet<>();
        for (Method m : face.getDeclaredMethods()) {
            if (!Modifier.isPrivate(m.getModifiers())) {
                seen.add(m.toString());
            }
        }
        return seen;
    }

    private static Set<String> fields(Class<?> face) {
        Set<String> seen = new TreeSet<>();
        for (Field f : face.getDeclaredFields()) {
            if (!Modifier.isPrivate(f.getModifiers())) {
                seen.add(f.toString());
            }
        }
        return seen;
    }

    private static Set<String> constructors(Class<?> face) {
        Set<String> seen = new TreeSet<>();
        for (Constructor<?> c : face.getDeclaredConstructors()) {
            seen.add(c.toString());
        }
        return seen;
    }

    private static void noPrivateMethodWithAPublicName(Class<?> face) {
        Set<String> names = new TreeSet<>();
        for (Method m : face.getMethods()) {
            if (m.getDeclaringClass() == face) {
                names.add(m.getName());
            }
        }
        Set<String> twice = new TreeSet<>();
        collectNames(face, names, twice);
        for (Class<?> inside : face.getDeclaredClasses()) {
            collectNames(inside, names, twice);
        }
        due("the private methods with a public one's name", twice, Set.of());
    }

    private static void collectNames(Class<?> c, Set<String> names, Set<String> twice) {
        for (Method m : c.getDeclaredMethods()) {
            boolean ofFace = c == EffectNets.class && Modifier.isPublic(m.getModifiers());
            if (!ofFace && names.contains(m.getName())) {
                twice.add(c.getName() + "." + m.getName());
            }
        }
    }
}
