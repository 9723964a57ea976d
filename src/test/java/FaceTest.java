import java.lang.reflect.Constructor;
import java.lang.reflect.Field;
import java.lang.reflect.Method;
import java.lang.reflect.Modifier;
import java.util.Set;
import java.util.TreeSet;

/** The public face of the document, and nothing beside it that is not private. */
public final class FaceTest {
    public static void main(String[] args) {
        Check.sentence("The public face: these members and no others");
        Set<String> found = new TreeSet<>();
        for (Field field : YenKPaths.class.getDeclaredFields()) {
            if (!Modifier.isPrivate(field.getModifiers())) {
                found.add(field.toString());
            }
        }
        for (Constructor<?> constructor : YenKPaths.class.getDeclaredConstructors()) {
            found.add(constructor.toString());
        }
        for (Method method : YenKPaths.class.getDeclaredMethods()) {
            if (!Modifier.isPrivate(method.getModifiers())) {
                found.add(method.toString());
            }
        }
        Set<String> wanted = new TreeSet<>(Set.of(
                "public static final int YenKPaths.BAD",
                "public static final int YenKPaths.NONE",
                "public YenKPaths()",
                "public boolean YenKPaths.arc(int,int,int)",
                "public boolean YenKPaths.ends(int,int)",
                "public int YenKPaths.weight(int,int)",
                "public int YenKPaths.paths()",
                "public int YenKPaths.length(int)",
                "public int YenKPaths.size(int)",
                "public int YenKPaths.vertex(int,int)",
                "public int YenKPaths.passing(int,int)",
                "public int YenKPaths.avoiding(int,int)",
                "public int YenKPaths.unavoidable()"));
        Check.due("face " + found, found.equals(wanted), true);
        Check.due("class is public and final",
                YenKPaths.class.getModifiers(), Modifier.PUBLIC | Modifier.FINAL);
        Check.due("BAD", YenKPaths.BAD, -1);
        Check.due("NONE", YenKPaths.NONE, -2);
        Check.end();
    }
}
