import java.lang.reflect.Constructor;
import java.lang.reflect.Field;
import java.lang.reflect.Method;
import java.lang.reflect.Modifier;
import java.util.Arrays;
import java.util.TreeSet;

/** The public face is the one of the document, and nothing else can be seen of the class. */
public final class FaceTest {
    private static int wrong = 0;

    private static void due(String what, Object got, Object want) {
        if (!want.equals(got)) {
            wrong++;
            System.out.println(what + " is " + got + ", due is " + want);
        }
    }

    public static void main(String[] args) {
        Class<FenceBench> face = FenceBench.class;
        due("the class", Modifier.toString(face.getModifiers()), "public final");
        due("the constructors", constructors(face), "[public FenceBench()]");
        due("the constants", constants(face), new TreeSet<>(Arrays.asList(
                "public static final int FenceBench.NONE", "public static final int FenceBench.UNTOLD")));
        due("the methods", methods(face), new TreeSet<>(Arrays.asList(
                "void clear()", "int field()", "int side(int,int)", "boolean grid(int,int)", "int draw(int)",
                "int undo()", "int redo()", "int whose()", "int look(int,int)", "int ask(int,int)",
                "int drawn(int) throws java.util.NoSuchElementException", "int part(int,int)", "int loose()",
                "int worth()", "int worthOf(int)", "int best(int)", "int simple()", "int keep()", "int give(int)",
                "int longs()", "int count(int)", "void empty()", "int heap(boolean,int,int)",
                "int value() throws java.lang.IllegalStateException", "int open(int)")));
        for (Class<?> inside : face.getDeclaredClasses()) {
            int bits = inside.getModifiers();
            due(inside + " is static and not public", Modifier.isStatic(bits)
                    && !Modifier.isPublic(bits) && !Modifier.isProtected(bits), true);
            staticsAreFinal(inside);
        }
        staticsAreFinal(face);
        noPrivateNamesake(face);
        due("NONE", FenceBench.NONE, -1);
        due("UNTOLD", FenceBench.UNTOLD, 1000);
        System.out.println(wrong == 0 ? "the face is as due" : wrong + " wrong");
        if (wrong != 0) {
            System.exit(1);
        }
    }

    private static String constructors(Class<?> face) {
        StringBuilder all = new StringBuilder("[");
        for (Constructor<?> c : face.getDeclaredConstructors()) {
            all.append(c.toGenericString());
        }
        return all.append("]").toString();
    }

    private static TreeSet<String> constants(Class<?> face) {
        TreeSet<String> all = new TreeSet<>();
        for (Field f : face.getDeclaredFields()) {
            if (!Modifier.isPrivate(f.getModifiers())) {
                all.add(f.toGenericString());
            }
        }
        return all;
    }

    private static TreeSet<String> methods(Class<?> face) {
        TreeSet<String> all = new TreeSet<>();
        for (Method m : face.getDeclaredMethods()) {
            if (!Modifier.isPrivate(m.getModifiers())) {
                all.add(m.toGenericString().replace("public ", "").replace("FenceBench.", ""));
            }
        }
        return all;
    }

    private static void staticsAreFinal(Class<?> one) {
        for (Field f : one.getDeclaredFields()) {
            if (Modifier.isStatic(f.getModifiers())) {
                due(f + " is final", Modifier.isFinal(f.getModifiers()), true);
            }
        }
    }

    private static void noPrivateNamesake(Class<?> face) {
        TreeSet<String> names = new TreeSet<>();
        for (Method m : face.getMethods()) {
            names.add(m.getName());
        }
        for (Method m : face.getDeclaredMethods()) {
            if (Modifier.isPrivate(m.getModifiers())) {
                due(m + " bears a public name", names.contains(m.getName()), false);
            }
        }
        for (Class<?> inside : face.getDeclaredClasses()) {
            for (Method m : inside.getDeclaredMethods()) {
                due(m + " bears a public name", names.contains(m.getName()), false);
            }
        }
    }
}
