import java.lang.reflect.Constructor;
import java.lang.reflect.Field;
import java.lang.reflect.Member;
import java.lang.reflect.Method;
import java.lang.reflect.Modifier;
import java.util.Arrays;
import java.util.Set;
import java.util.TreeSet;

/** The public face: the document's members, word for word, and no other one that isn't private. */
public final class FaceTest {
    private static final Set<String> FACE = new TreeSet<>(Arrays.asList(
            "public static final int BAD_NODE",
            "public static final int BAD_NUMBER",
            "public ParametricCut()",
            "public int link(int, int, int)",
            "public int toSource(int, int, int)",
            "public int toSink(int, int, int)",
            "public void flip()",
            "public int cost(int, int)",
            "public int least(int)",
            "public int always(int)",
            "public int ever(int)",
            "public int ties(int)",
            "public int stages()",
            "public int worst()",
            "public int spare(int, int, int)",
            "public boolean separates(int, int, int)"));

    public static void main(String[] args) {
        Check.sentence("The public face: the class");
        Class<?> face = ParametricCut.class;
        Check.due("it is public and final, no more", face.getModifiers(), Modifier.PUBLIC | Modifier.FINAL);
        Check.due("it has no package", face.getPackageName().isEmpty(), true);
        Check.due("it inherits from nothing", face.getSuperclass() == Object.class, true);
        Check.due("interfaces", face.getInterfaces().length, 0);
        Check.due("type parameters", face.getTypeParameters().length, 0);
        Check.due("nested classes", face.getDeclaredClasses().length, 0);
        Check.sentence("The public face: the constants");
        Check.due("BAD_NODE", ParametricCut.BAD_NODE, -1);
        Check.due("BAD_NUMBER", ParametricCut.BAD_NUMBER, -2);
        Check.sentence("The public face: its members and no others");
        Set<String> seen = visibleMembers();
        for (String member : FACE) {
            Check.due("there is " + member, seen.contains(member), true);
        }
        for (String member : seen) {
            Check.due("the document has " + member, FACE.contains(member), true);
        }
        Check.end();
    }

    private static Set<String> visibleMembers() {
        Set<String> seen = new TreeSet<>();
        for (Field field : ParametricCut.class.getDeclaredFields()) {
            add(seen, field, field.getType() + " " + field.getName());
        }
        for (Method method : ParametricCut.class.getDeclaredMethods()) {
            String head = method.getReturnType() + " " + method.getName();
            add(seen, method, head + types(method.getParameterTypes()) + thrown(method.getExceptionTypes()));
        }
        for (Constructor<?> made : ParametricCut.class.getDeclaredConstructors()) {
            add(seen, made, made.getName() + types(made.getParameterTypes()) + thrown(made.getExceptionTypes()));
        }
        return seen;
    }

    private static void add(Set<String> seen, Member member, String text) {
        if (!Modifier.isPrivate(member.getModifiers())) {
            seen.add((Modifier.toString(member.getModifiers()) + " " + text).trim());
        }
    }

    private static String types(Class<?>[] types) {
        String list = Arrays.toString(types);
        return "(" + list.substring(1, list.length() - 1) + ")";
    }

    private static String thrown(Class<?>[] types) {
        return types.length == 0 ? "" : " throws " + types(types);
    }
}
