import java.lang.reflect.Constructor;
import java.lang.reflect.Field;
import java.lang.reflect.Method;
import java.lang.reflect.Modifier;
import java.util.ArrayList;
import java.util.Arrays;
import java.util.Collections;
import java.util.List;

/** The public face: the document's constants, constructor and calls, and no other member that can be seen. */
public final class FaceTest {
    private static final String CALLS = "feed(5) trim(1) out(1) make(3) set(5) cell(5) stamp(5) about(2) drop(1) tell(1) "
        + "read(1) undo(0) traits(2) powers(3) centre(2) laws(1) fault(0) holds(2) fails(3) witness(3) span(2) part(2) "
        + "sub(3) link(3) congruence(2) bound(4b) quotient(3) map(4) alike(2) least(2) product(3) function(2) models(4b) "
        + "model(5) count(1)";

    public static void main(String[] args) throws Exception {
        constants();
        calls();
        rest();
        Due.finish();
    }

    private static void constants() throws Exception {
        String[] names = {"NONE", "EMPTY", "OUTSIDE", "UNFIT", "MANY", "CAST", "INDEX"};
        int[] values = {-1, -2, -3, -4, -5, -12, -13};
        for (int i = 0; i < names.length; i++) {
            Due.due(names[i], AlgebraCabinet.class.getField(names[i]).getInt(null), values[i]);
        }
        for (Field field : AlgebraCabinet.class.getDeclaredFields()) {
            boolean constant = Arrays.asList(names).contains(field.getName());
            Due.isTrue("private: " + field.getName(), constant || Modifier.isPrivate(field.getModifiers()));
        }
    }

    private static void calls() {
        List<String> seen = new ArrayList<>();
        List<String> hidden = new ArrayList<>();
        for (Method method : AlgebraCabinet.class.getDeclaredMethods()) {
            if (Modifier.isPrivate(method.getModifiers())) {
                hidden.add(method.getName());
                continue;
            }
            boolean plain = Modifier.isPublic(method.getModifiers()) && !Modifier.isStatic(method.getModifiers());
            Due.isTrue("public, not static, answers int: " + method, plain && method.getReturnType() == int.class);
            boolean flag = Arrays.asList(method.getParameterTypes()).contains(boolean.class);
            seen.add(method.getName() + "(" + method.getParameterCount() + (flag ? "b" : "") + ")");
        }
        List<String> due = new ArrayList<>(Arrays.asList(CALLS.split(" ")));
        Due.due("how many calls", seen.size(), 35);
        Collections.sort(seen);
        Collections.sort(due);
        Due.dueText("the calls", seen.toString(), due.toString());
        for (Class<?> inside : AlgebraCabinet.class.getDeclaredClasses()) {
            for (Method method : inside.getDeclaredMethods()) {
                if (Modifier.isPrivate(method.getModifiers())) {
                    hidden.add(method.getName());
                }
            }
        }
        for (String name : hidden) {
            Due.isTrue("no call's name: " + name, seen.stream().noneMatch(s -> s.startsWith(name + "(")));
        }
    }

    private static void rest() {
        Due.isTrue("public and final", Modifier.isPublic(AlgebraCabinet.class.getModifiers())
            && Modifier.isFinal(AlgebraCabinet.class.getModifiers()));
        Constructor<?>[] constructors = AlgebraCabinet.class.getDeclaredConstructors();
        Due.due("constructors", constructors.length, 1);
        Due.isTrue("a public constructor without arguments", Modifier.isPublic(constructors[0].getModifiers())
            && constructors[0].getParameterCount() == 0);
        for (Class<?> inside : AlgebraCabinet.class.getDeclaredClasses()) {
            Due.isTrue("static and not public: " + inside, Modifier.isStatic(inside.getModifiers())
                && !Modifier.isPublic(inside.getModifiers()) && !Modifier.isProtected(inside.getModifiers()));
            Due.isTrue("some twenty fields: " + inside, fieldsOf(inside) <= 22);
        }
        Due.isTrue("some twenty fields", fieldsOf(AlgebraCabinet.class) <= 22);
        Due.isTrue("some twelve classes", AlgebraCabinet.class.getDeclaredClasses().length <= 13);
    }

    /** Beside the constants. */
    private static long fieldsOf(Class<?> owner) {
        return Arrays.stream(owner.getDeclaredFields()).filter(f -> !Modifier.isStatic(f.getModifiers())).count();
    }
}
