import java.lang.reflect.Constructor;
import java.lang.reflect.Field;
import java.lang.reflect.Method;
import java.lang.reflect.Modifier;
import java.util.Set;
import java.util.TreeSet;

/** The public face: every constructor and method of the document, and no other member that can be seen from outside. */
public final class FaceTest {
    private static final String FACE = """
        int way(int,int,int,int)
        int blast(int,int)
        int wayIs(int,int,int)
        int volume(int,int)
        int volumeIs(int,int)
        int as(int,int)
        int swap(int,int,int)
        int lacks(int,int,int)
        int says(int,int,int,int)
        int feed(long,int)
        int text(int)
        int untell(int)
        int walk(int,int,int,int)
        int draws(int,int,int)
        int seed(int)
        int best(int,int,int)
        int fits(int,int,int)
        int over(int,int,int,int,int)
        int boy(int,int)
        int worth(int)
        long longer(int,int,int)
        int leftOut(int)
        int voice(int,int,int)
        int body(int)
        int sheet(int,int,int)
        int put(int,int,int)
        int move(int,int,int,int,int)
        int ways(int)
        int image()
        int restore()
        int tell(int)
        int check(int)
        int count(int)
        int told(int)
        """;

    public static void main(String[] args) {
        int modifiers = BlindMaps.class.getModifiers();
        if (!Modifier.isPublic(modifiers) || !Modifier.isFinal(modifiers)) {
            Script.fail("face", "the class is not public and final");
        }
        compareMethods();
        for (Field field : BlindMaps.class.getDeclaredFields()) {
            if (!Modifier.isPrivate(field.getModifiers())) {
                Script.fail("face", "a field that is not private: " + field.getName());
            }
        }
        Constructor<?>[] constructors = BlindMaps.class.getDeclaredConstructors();
        if (constructors.length != 1 || !Modifier.isPublic(constructors[0].getModifiers())
                || constructors[0].getParameterCount() != 0) {
            Script.fail("face", "the constructor is not the one of the document");
        }
        for (Class<?> inside : BlindMaps.class.getDeclaredClasses()) {
            if (!Modifier.isStatic(inside.getModifiers()) || Modifier.isPublic(inside.getModifiers())) {
                Script.fail("face", "a class inside that is public or not static: " + inside.getName());
            }
        }
        Script.end();
    }

    private static void compareMethods() {
        Set<String> due = new TreeSet<>(Set.of(FACE.trim().split("\n")));
        Set<String> publicNames = new TreeSet<>();
        Set<String> privateNames = new TreeSet<>();
        Set<String> got = new TreeSet<>();
        for (Method method : BlindMaps.class.getDeclaredMethods()) {
            if (Modifier.isPrivate(method.getModifiers())) {
                privateNames.add(method.getName());
                continue;
            }
            publicNames.add(method.getName());
            got.add(rowOf(method));
        }
        if (!got.equals(due)) {
            Script.fail("face", "methods are " + got + ", due are " + due);
        }
        privateNames.retainAll(publicNames);
        if (!privateNames.isEmpty()) {
            Script.fail("face", "private methods with a public one's name: " + privateNames);
        }
    }

    private static String rowOf(Method method) {
        StringBuilder row = new StringBuilder();
        row.append(method.getReturnType().getName()).append(' ').append(method.getName()).append('(');
        for (Class<?> type : method.getParameterTypes()) {
            row.append(row.charAt(row.length() - 1) == '(' ? "" : ",").append(type.getName());
        }
        return row.append(')').toString();
    }
}
