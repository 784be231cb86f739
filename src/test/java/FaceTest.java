import java.lang.reflect.Constructor;
import java.lang.reflect.Field;
import java.lang.reflect.Member;
import java.lang.reflect.Method;
import java.lang.reflect.Modifier;
import java.util.Arrays;
import java.util.Set;
import java.util.TreeSet;

/** The public face: the document's members, and no other one that isn't private. */
public final class FaceTest {
    private static final Set<String> FACE = new TreeSet<>(Arrays.asList(
            "int BAD_NODE", "int BAD_NUMBER", "new(0)",
            "int link(3)", "int toSource(3)", "int toSink(3)", "void flip(0)",
            "int cost(2)", "int least(1)", "int always(1)", "int ever(1)", "int ties(1)",
            "int stages(0)", "int worst(0)", "int spare(3)", "boolean separates(3)"));

    public static void main(String[] args) {
        Check.due("BAD_NODE", ParametricCut.BAD_NODE, -1);
        Check.due("BAD_NUMBER", ParametricCut.BAD_NUMBER, -2);
        Check.due("the class is public and final",
                ParametricCut.class.getModifiers(), Modifier.PUBLIC | Modifier.FINAL);
        Set<String> seen = visibleMembers();
        Check.due("members " + seen + " are the face's", seen.equals(FACE), true);
        Check.due("nested classes", ParametricCut.class.getDeclaredClasses().length, 0);
        Check.end();
    }

    private static Set<String> visibleMembers() {
        Set<String> seen = new TreeSet<>();
        for (Field field : ParametricCut.class.getDeclaredFields()) {
            add(seen, field, field.getType() + " " + field.getName());
        }
        for (Method method : ParametricCut.class.getDeclaredMethods()) {
            allInts(method.getName(), method.getParameterTypes());
            add(seen, method, method.getReturnType() + " " + method.getName() + "(" + method.getParameterCount() + ")");
        }
        for (Constructor<?> made : ParametricCut.class.getDeclaredConstructors()) {
            add(seen, made, "new(" + made.getParameterCount() + ")");
        }
        return seen;
    }

    private static void add(Set<String> seen, Member member, String text) {
        if (!Modifier.isPrivate(member.getModifiers())) {
            Check.due(text + " is public", Modifier.isPublic(member.getModifiers()), true);
            seen.add(text);
        }
    }

    private static void allInts(String name, Class<?>[] types) {
        for (Class<?> type : types) {
            Check.due(name + " takes ints", type == int.class, true);
        }
    }
}
