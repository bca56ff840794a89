import java.lang.reflect.Constructor;
import java.lang.reflect.Field;
import java.lang.reflect.Member;
import java.lang.reflect.Method;
import java.lang.reflect.Modifier;
import java.util.Arrays;
import java.util.Set;
import java.util.TreeSet;

// The class shows what the document's public face lists, and hides all else.
public final class FaceTests {
    private static final Set<String> FACE = new TreeSet<>(Arrays.asList(
        "public static final int ScrubbedCells.BAD",
        "public static final int ScrubbedCells.BROKEN",
        "public ScrubbedCells()",
        "public int ScrubbedCells.write(int,int)",
        "public int ScrubbedCells.flip(int,int)",
        "public int ScrubbedCells.read(int)",
        "public int ScrubbedCells.repair(int)",
        "public int ScrubbedCells.scrub(int)",
        "public int ScrubbedCells.hand()",
        "public int ScrubbedCells.broken()",
        "public int ScrubbedCells.marred()",
        "public int ScrubbedCells.raw(int)",
        "public int ScrubbedCells.distance(int,int)",
        "public int ScrubbedCells.nearest(int)",
        "public int ScrubbedCells.mix(int,int)"));

    private static final Set<String> shown = new TreeSet<>();

    private static void note(Member member, String text) {
        if (!Modifier.isPrivate(member.getModifiers())) {
            shown.add(text);
        }
    }

    public static void main(String[] args) {
        Class<?> face = ScrubbedCells.class;
        for (Field field : face.getDeclaredFields()) {
            note(field, field.toString());
        }
        for (Constructor<?> constructor : face.getDeclaredConstructors()) {
            note(constructor, constructor.toString());
        }
        for (Method method : face.getDeclaredMethods()) {
            note(method, method.toString());
        }
        boolean isPublicFinal = Modifier.isPublic(face.getModifiers()) && Modifier.isFinal(face.getModifiers());
        if (!isPublicFinal || !shown.equals(FACE)) {
            System.out.println("public and final: " + isPublicFinal + ", shown: " + shown + ", due is " + FACE);
            System.exit(1);
        }
        System.out.println("the face is as due");
    }
}
