import java.lang.reflect.Array;
import java.lang.reflect.Field;
import java.lang.reflect.Modifier;
import java.util.Collections;
import java.util.IdentityHashMap;
import java.util.Set;

/** How many objects and arrays hang on one object, and how many fields and elements they have. */
final class Size {
    private final Set<Object> seen = Collections.newSetFromMap(new IdentityHashMap<>());
    private int elements = 0;

    private Size() {
    }

    static Size of(Object root) throws IllegalAccessException {
        Size size = new Size();
        size.add(root);
        return size;
    }

    int objects() {
        return seen.size();
    }

    int elements() {
        return elements;
    }

    private void add(Object object) throws IllegalAccessException {
        if (object == null || !seen.add(object)) {
            return;
        }
        if (object.getClass().isArray()) {
            addRow(object);
            return;
        }
        for (Field field : object.getClass().getDeclaredFields()) {
            if (!Modifier.isStatic(field.getModifiers())) {
                elements++;
                field.setAccessible(true);
                add(field.getType().isPrimitive() ? null : field.get(object));
            }
        }
    }

    private void addRow(Object row) throws IllegalAccessException {
        elements += Array.getLength(row);
        for (int i = 0; i < Array.getLength(row); i++) {
            add(row.getClass().getComponentType().isPrimitive() ? null : Array.get(row, i));
        }
    }
}
