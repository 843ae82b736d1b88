import java.lang.reflect.Method;
import java.util.HashMap;
import java.util.Map;

/** A call that is written as in the document, "write(59, -1)", so that a run of calls can be kept and run again. */
final class Call {
    private static final Map<String, Call> KNOWN = new HashMap<>();

    final String name;
    final Object[] arguments;
    private final Method method;

    private Call(String name, Object[] arguments, Method method) {
        this.name = name;
        this.arguments = arguments;
        this.method = method;
    }

    static Call of(String written) {
        return KNOWN.computeIfAbsent(written, Call::parse);
    }

    private static Call parse(String written) {
        int open = written.indexOf('(');
        String name = written.substring(0, open);
        String inside = written.substring(open + 1, written.length() - 1).trim();
        String[] parts = inside.isEmpty() ? new String[0] : inside.split(", *");
        Object[] arguments = new Object[parts.length];
        for (int i = 0; i < parts.length; i++) {
            arguments[i] = parts[i].matches("true|false") ? (Object) Boolean.valueOf(parts[i]) : number(parts[i]);
        }
        for (Method m : RowsAloud.class.getMethods()) {
            if (m.getName().equals(name) && m.getParameterCount() == parts.length) {
                return new Call(name, arguments, m);
            }
        }
        throw new IllegalArgumentException("there is no " + written);
    }

    private static Integer number(String written) {
        switch (written) {
            case "LEAST": return Integer.MIN_VALUE;
            case "GREATEST": return Integer.MAX_VALUE;
            case "NONE": return RowsAloud.NONE;
            default: return Integer.valueOf(written);
        }
    }

    int on(RowsAloud x) {
        try {
            return (Integer) method.invoke(x, arguments);
        } catch (ReflectiveOperationException e) {
            throw new IllegalStateException(name + " threw", e);
        }
    }
}
