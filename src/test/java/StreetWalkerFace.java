import java.lang.reflect.Constructor;
import java.lang.reflect.Field;
import java.lang.reflect.Method;
import java.lang.reflect.Modifier;
import java.util.Set;
import java.util.TreeSet;

/** The public face: the members of the document and, beside private ones, no others. */
public final class StreetWalkerFace {
    private static final Set<String> FACE = Set.of(
            "public static final int StreetWalker.NONE",
            "public static final int StreetWalker.FULL",
            "public StreetWalker()",
            "public int StreetWalker.build(int,int,int)",
            "public boolean StreetWalker.close(int)",
            "public boolean StreetWalker.setLength(int,int)",
            "public int StreetWalker.streets()",
            "public int StreetWalker.odd()",
            "public boolean StreetWalker.connected()",
            "public int StreetWalker.extra()",
            "public int StreetWalker.bestSet()",
            "public int StreetWalker.extraWith(int)",
            "public int StreetWalker.extraWithout(int)",
            "public int StreetWalker.way(int,int)",
            "public int StreetWalker.walkLength()",
            "public int StreetWalker.walkAt(int,int)");

    private static int wrong = 0;

    private static void due(String what, Object got, Object want) {
        if (!got.equals(want)) {
            wrong++;
            System.out.println(what + " is " + got + ", due is " + want);
        }
    }

    private static Set<String> face() {
        Set<String> face = new TreeSet<>();
        for (Field field : StreetWalker.class.getDeclaredFields()) {
            if (!Modifier.isPrivate(field.getModifiers())) {
                face.add(field.toString());
            }
        }
        for (Constructor<?> constructor : StreetWalker.class.getDeclaredConstructors()) {
            face.add(constructor.toString());
        }
        for (Method method : StreetWalker.class.getDeclaredMethods()) {
            if (!Modifier.isPrivate(method.getModifiers())) {
                face.add(method.toString());
            }
        }
        return face;
    }

    public static void main(String[] args) {
        due("the face", face(), new TreeSet<>(FACE));
        due("the class", Modifier.toString(StreetWalker.class.getModifiers()), "public final");
        due("NONE", StreetWalker.NONE, -1);
        due("FULL", StreetWalker.FULL, -2);
        System.out.println(wrong == 0 ? "the face is as due" : wrong + " parts of the face are not as due");
        if (wrong != 0) {
            System.exit(1);
        }
    }
}
