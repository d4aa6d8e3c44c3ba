import java.lang.reflect.InvocationTargetException;
import java.lang.reflect.Method;
import java.util.HashMap;
import java.util.Map;

/** Calls written as text, such as "discover(0, 1, -1)", carried out on a LeaseServer or a Model. */
final class Calls {
    private static final Map<Class<?>, Map<String, Method>> METHODS = new HashMap<>();

    private Calls() {
    }

    /** Returns "= answer" or "! exception", the exception by its plain name. */
    static String answer(Object target, String call) {
        int open = call.indexOf('(');
        String inside = call.substring(open + 1, call.length() - 1);
        String[] texts = inside.isEmpty() ? new String[0] : inside.split(", ");
        Method method = methodsOf(target.getClass()).get(call.substring(0, open));
        if (method == null || method.getParameterCount() != texts.length) {
            return "? no such call";
        }
        Object[] values = new Object[texts.length];
        for (int i = 0; i < texts.length; i++) {
            if (method.getParameterTypes()[i] == boolean.class) {
                values[i] = Boolean.valueOf(texts[i]);
            } else {
                values[i] = Integer.valueOf(texts[i]);
            }
        }
        return invoke(method, target, values);
    }

    private static String invoke(Method method, Object target, Object[] values) {
        try {
            return "= " + method.invoke(target, values);
        } catch (InvocationTargetException e) {
            return "! " + e.getCause().getClass().getSimpleName();
        } catch (IllegalAccessException e) {
            return "? " + e;
        }
    }

    private static Map<String, Method> methodsOf(Class<?> type) {
        return METHODS.computeIfAbsent(type, t -> {
            Map<String, Method> methods = new HashMap<>();
            for (Method method : t.getDeclaredMethods()) {
                if (!java.lang.reflect.Modifier.isPrivate(method.getModifiers())) {
                    method.setAccessible(true);
                    methods.put(method.getName(), method);
                }
            }
            return methods;
        });
    }

    /**
     * Returns every answer that a call without an effect can give, and what is set: two equal texts mean two equal
     * states, but for what is saved.
     */
    static String snapshot(Object target) {
        StringBuilder text = new StringBuilder();
        for (String name : new String[] {"time", "poolCount", "bound", "conflicts", "averageRest", "logSize"}) {
            add(text, target, name + "()");
        }
        for (int pool = 0; pool < 5; pool++) {
            for (int part = 0; part < 5; part++) {
                add(text, target, "pool(" + pool + ", " + part + ")");
            }
        }
        for (int group = 0; group < 3; group++) {
            add(text, target, "utilization(" + group + ")");
            for (int state = 0; state < 4; state++) {
                add(text, target, "countState(" + group + ", " + state + ")");
            }
        }
        addClients(text, target);
        addAddresses(text, target);
        for (int index = 0; index < 30; index++) {
            add(text, target, "log(" + index + ")");
        }
        addSettings(text, target);
        return text.toString();
    }

    /** What is set can only be read by setting it, so that it is set back at once. */
    private static void addSettings(StringBuilder text, Object target) {
        for (String name : new String[] {"setHold", "setQuarantine"}) {
            addSetting(text, target, name + "(", "10");
        }
        for (int group = 0; group < 3; group++) {
            addSetting(text, target, "setDirect(" + group + ", ", "true");
            addSetting(text, target, "setRelay(" + group + ", ", "true");
        }
        for (int address = 0; address < 100; address++) {
            addSetting(text, target, "exclude(" + address + ", ", "false");
            addSetting(text, target, "setStranger(" + address + ", ", "false");
        }
    }

    private static void addSetting(StringBuilder text, Object target, String opening, String trial) {
        String before = answer(target, opening + trial + ")");
        text.append(opening).append(trial).append(") ").append(before).append('\n');
        if (before.startsWith("= ")) {
            answer(target, opening + before.substring(2) + ")");
        }
    }

    private static void addClients(StringBuilder text, Object target) {
        for (int client = 0; client < 20; client++) {
            for (String name : new String[] {"clientState", "addressOf", "remembered"}) {
                add(text, target, name + "(" + client + ")");
            }
            for (int part = 0; part < 3; part++) {
                add(text, target, "timer(" + client + ", " + part + ")");
            }
            for (int group = 0; group < 3; group++) {
                add(text, target, "nextCandidate(" + client + ", " + group + ")");
            }
        }
    }

    private static void addAddresses(StringBuilder text, Object target) {
        for (int address = 0; address < 100; address++) {
            for (String name : new String[] {"poolOf", "addressState", "holder", "until", "freeSince"}) {
                add(text, target, name + "(" + address + ")");
            }
        }
    }

    private static void add(StringBuilder text, Object target, String call) {
        text.append(call).append(' ').append(answer(target, call)).append('\n');
    }

    /** Returns the first row in which two snapshots differ. */
    static String difference(String one, String other) {
        String[] rows = one.split("\n");
        String[] others = other.split("\n");
        for (int i = 0; i < rows.length && i < others.length; i++) {
            if (!rows[i].equals(others[i])) {
                return rows[i] + " against " + others[i];
            }
        }
        return "the number of rows";
    }
}
