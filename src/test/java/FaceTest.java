import java.lang.reflect.Constructor;
import java.lang.reflect.Field;
import java.lang.reflect.Method;
import java.lang.reflect.Modifier;
import java.util.ArrayList;
import java.util.Arrays;
import java.util.List;
import java.util.TreeSet;

/** The public face, to the letter; and that no call throws, whatever its numbers and whatever the state. */
public final class FaceTest {
    private static final String FACE = "about(int,int)int away(int,boolean)int bill(int)int change(int,int)int "
        + "content(int)int count(int)int deal()int digest()long draw(int)int fault()int give(int,int)int "
        + "had(int,int)int license(int)int matter()int may(int,int)int of(int,int)int pass(int)int "
        + "person(int,int)int price(int,int,int)int priced(int,int)int repeal()int room(int,int,int)int "
        + "strike(int)int trade()int traded(int)int turn(int)int type(int)int wish(int,int)int wrong()int";
    private static final int[] EDGES = {
        Integer.MIN_VALUE, Integer.MIN_VALUE + 1, -61, -33, -4, -3, -2, -1, 0, 1, 2, 3, 4, 7, 8, 10, 15, 16, 17, 18,
        20, 21, 23, 24, 25, 31, 32, 33, 40, 59, 60, 61, 64, 126, 127, 256, 999, 1000, 1 << 16, 1 << 30,
        Integer.MAX_VALUE - 1, Integer.MAX_VALUE
    };

    public static void main(String[] args) throws ReflectiveOperationException {
        constants();
        face();
        everyNumber(new TermLodgings());
        everyNumber(crowded());
        Due.finish();
    }

    private static void constants() {
        Due.due("NONE", TermLodgings.NONE, -1);
        Due.due("BAD", TermLodgings.BAD, -2);
        Due.due("NOT", TermLodgings.NOT, -3);
        Due.due("FULL", TermLodgings.FULL, -4);
    }

    private static void face() {
        same("class", TermLodgings.class.toGenericString(), "public final class TermLodgings");
        same("class above", TermLodgings.class.getSuperclass().getName(), "java.lang.Object");
        same("interfaces", Arrays.toString(TermLodgings.class.getInterfaces()), "[]");
        Constructor<?>[] constructors = TermLodgings.class.getDeclaredConstructors();
        Due.due("how many constructors", constructors.length, 1);
        same("constructor", constructors[0].toGenericString(), "public TermLodgings()");
        fields();
        methods();
    }

    private static void fields() {
        TreeSet<String> found = new TreeSet<>();
        for (Field field : TermLodgings.class.getDeclaredFields()) {
            if (!Modifier.isPrivate(field.getModifiers())) {
                found.add(field.toGenericString().replace("TermLodgings.", ""));
            }
        }
        same("fields", found.toString(), "[public static final int BAD, public static final int FULL, "
            + "public static final int NONE, public static final int NOT]");
    }

    private static void methods() {
        TreeSet<String> found = new TreeSet<>();
        for (Method method : TermLodgings.class.getDeclaredMethods()) {
            if (!Modifier.isPrivate(method.getModifiers())) {
                same(method.getName() + "'s modifiers", Modifier.toString(method.getModifiers()), "public");
                found.add(method.getName() + takes(method) + method.getReturnType().getName());
            }
        }
        same("methods", found.toString(), new TreeSet<>(Arrays.asList(FACE.split(" "))).toString());
    }

    private static String takes(Method method) {
        List<String> types = new ArrayList<>();
        for (Class<?> type : method.getParameterTypes()) {
            types.add(type.getName());
        }
        return "(" + String.join(",", types) + ")";
    }

    private static void same(String what, String found, String due) {
        if (!found.equals(due)) {
            Due.due("the face's " + what + " are " + found + ", due " + due, 0, 1);
        }
    }

    private static TermLodgings crowded() {
        TermLodgings x = new TermLodgings();
        for (int room = 0; room < 24; room++) {
            x.room(room % 8, room % 21, room % 4);
        }
        for (int p = 0; p < 16; p++) {
            x.person(1 + p % 4, p % 9 - 1);
            for (int k = 0; k < 8; k++) {
                x.wish(p, (5 * p + 3 * k) % 24);
            }
        }
        x.deal();
        x.pass(7);
        return x;
    }

    private static void everyNumber(TermLodgings x) throws ReflectiveOperationException {
        for (Method method : TermLodgings.class.getMethods()) {
            if (method.getDeclaringClass() == TermLodgings.class) {
                callWithEdges(x, method, new Object[method.getParameterCount()], 0);
            }
        }
    }

    private static void callWithEdges(TermLodgings x, Method method, Object[] numbers, int at)
        throws ReflectiveOperationException {
        if (at == numbers.length) {
            method.invoke(x, numbers);
        } else if (method.getParameterTypes()[at] == boolean.class) {
            for (boolean is : new boolean[] {true, false}) {
                numbers[at] = is;
                callWithEdges(x, method, numbers, at + 1);
            }
        } else {
            for (int edge : EDGES) {
                numbers[at] = edge;
                callWithEdges(x, method, numbers, at + 1);
            }
        }
    }
}
