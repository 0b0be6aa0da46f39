import java.lang.reflect.InvocationTargetException;
import java.lang.reflect.Method;
import java.lang.reflect.Modifier;
import java.util.TreeMap;

/** An object of Manypens, whose calls are told by names and numbers (a sign by its code, true by 1). */
final class Calls {
    /** What later calls answer is free. */
    static final int PROMISED = 512;
    static final TreeMap<String, Method> METHODS = new TreeMap<>();

    static {
        for (Method m : Manypens.class.getDeclaredMethods()) {
            if (Modifier.isPublic(m.getModifiers())) {
                METHODS.put(m.getName(), m);
            }
        }
    }

    private final Manypens pens = new Manypens();
    private int many = 0;

    /** What the call answers, or the name of what it throws. */
    String answer(String name, int... told) {
        many++;
        if (many > PROMISED) {
            throw new Error("more calls of an object than are promised");
        }
        return answer(pens, name, told);
    }

    int number(String name, int... told) {
        return Integer.parseInt(answer(name, told));
    }

    int left() {
        return PROMISED - many;
    }

    /** The same of any object; numbers that the call does not take are left out. */
    static String answer(Manypens pens, String name, int... told) {
        Method method = METHODS.get(name);
        Class<?>[] kinds = method.getParameterTypes();
        Object[] all = new Object[kinds.length];
        for (int i = 0; i < all.length; i++) {
            if (kinds[i] == char.class) {
                all[i] = (char) told[i];
            } else if (kinds[i] == boolean.class) {
                all[i] = told[i] == 1;
            } else {
                all[i] = told[i];
            }
        }
        try {
            return String.valueOf(method.invoke(pens, all));
        } catch (InvocationTargetException e) {
            return e.getCause().getClass().getSimpleName();
        } catch (IllegalAccessException e) {
            throw new Error(e);
        }
    }
}
