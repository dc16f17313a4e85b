import java.lang.reflect.Constructor;
import java.lang.reflect.Field;
import java.lang.reflect.Method;
import java.lang.reflect.Modifier;
import java.util.Set;
import java.util.TreeSet;

/** The public face of the document, and nothing else that is not private. */
public final class FaceTest {
    private static final Due due = new Due();

    public static void main(String[] args) {
        Set<String> face = new TreeSet<>();
        for (Method method : AtlasPacker.class.getDeclaredMethods()) {
            addUnlessPrivate(face, method.getModifiers(), method.toString());
        }
        for (Constructor<?> constructor : AtlasPacker.class.getDeclaredConstructors()) {
            addUnlessPrivate(face, constructor.getModifiers(), constructor.toString());
        }
        for (Field field : AtlasPacker.class.getDeclaredFields()) {
            addUnlessPrivate(face, field.getModifiers(), field.toString());
        }
        Set<String> want = Set.of(
                "public static final int AtlasPacker.BAD",
                "public static final int AtlasPacker.FULL",
                "public static final int AtlasPacker.NONE",
                "public AtlasPacker(int,int)",
                "public int AtlasPacker.place(int,int,boolean)",
                "public int AtlasPacker.remove(int)",
                "public int AtlasPacker.look(int,int)",
                "public int AtlasPacker.owner(int,int)",
                "public int AtlasPacker.freeCells()",
                "public int AtlasPacker.holes()",
                "public int AtlasPacker.largestHole()",
                "public int AtlasPacker.bestPlace(int,int)",
                "public int AtlasPacker.fitting()",
                "public int AtlasPacker.clear()");
        due.isTrue("the face " + face + " is the document's", face.equals(want));
        due.isTrue("the class is public and final",
                AtlasPacker.class.getModifiers() == (Modifier.PUBLIC | Modifier.FINAL));
        due.is("nested classes", AtlasPacker.class.getDeclaredClasses().length, 0);
        due.is("BAD", AtlasPacker.BAD, -1);
        due.is("FULL", AtlasPacker.FULL, -2);
        due.is("NONE", AtlasPacker.NONE, -3);
        due.end();
    }

    private static void addUnlessPrivate(Set<String> face, int modifiers, String member) {
        if (!Modifier.isPrivate(modifiers)) {
            face.add(member);
        }
    }
}
