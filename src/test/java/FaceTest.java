import java.lang.reflect.Constructor;
import java.lang.reflect.Field;
import java.lang.reflect.Method;
import java.lang.reflect.Modifier;
import java.util.Arrays;
import java.util.TreeSet;

/** The public face is the document's, and nothing else can be seen. */
public final class FaceTest {
    private static final String[] METHODS = {
        "feed(int)", "desk()", "fault()", "told(int)", "at(int)", "spelt(int,int)", "logged(int,int)",
        "read(int)", "unread()", "put(int)", "word(int)", "change(int,int)", "drop(int)", "turn()", "drift(int)", "undo(int)",
        "length(int,int)", "figure(int,int,int)", "often(int,int,int)", "first(int,int)", "again(int)", "apart(int)",
        "back(int)", "in(int)", "changes(int)", "noSlip(int,int)", "hear(int,int,boolean)", "couldBe()", "ask()",
        "write(int,int)", "judge()", "tear()", "seed(int)", "keep(int)", "goBack(int)"};

    private static String written(Method m) {
        StringBuilder text = new StringBuilder(m.getName()).append('(');
        for (int i = 0; i < m.getParameterTypes().length; i++) {
            text.append(i > 0 ? "," : "").append(m.getParameterTypes()[i].getName());
        }
        return text.append(')').toString();
    }

    public static void main(String[] args) {
        Checks checks = new Checks("FaceTest");
        TreeSet<String> seen = new TreeSet<>();
        TreeSet<String> publicNames = new TreeSet<>();
        for (Method m : RowsAloud.class.getDeclaredMethods()) {
            if (Modifier.isPublic(m.getModifiers())) {
                seen.add(written(m));
                publicNames.add(m.getName());
                checks.holds(m.getName() + " answers an int", m.getReturnType() == int.class);
            }
        }
        checks.due("the public methods", seen.toString(), new TreeSet<>(Arrays.asList(METHODS)).toString());
        for (Method m : RowsAloud.class.getDeclaredMethods()) {
            checks.holds(m.getName() + " is public or private", Modifier.isPublic(m.getModifiers())
                || Modifier.isPrivate(m.getModifiers()) && !publicNames.contains(m.getName()));
        }
        TreeSet<String> constants = new TreeSet<>();
        for (Field f : RowsAloud.class.getDeclaredFields()) {
            if (!Modifier.isPrivate(f.getModifiers())) {
                constants.add(f.getName());
                checks.due("the modifiers of " + f.getName(), f.getModifiers(),
                    Modifier.PUBLIC | Modifier.STATIC | Modifier.FINAL);
            }
        }
        checks.due("the constants", constants.toString(), "[FULL, NONE, NOT, OUTSIDE, UNKNOWN]");
        checks.due("NONE", RowsAloud.NONE, -1);
        checks.due("UNKNOWN", RowsAloud.UNKNOWN, -1000000001);
        checks.due("OUTSIDE", RowsAloud.OUTSIDE, -1000000002);
        checks.due("NOT", RowsAloud.NOT, -1000000003);
        checks.due("FULL", RowsAloud.FULL, -1000000004);
        Constructor<?>[] made = RowsAloud.class.getDeclaredConstructors();
        checks.due("constructors", made.length, 1);
        checks.holds("the constructor is public and takes nothing",
            Modifier.isPublic(made[0].getModifiers()) && made[0].getParameterCount() == 0);
        checks.holds("the class is public and final", Modifier.isPublic(RowsAloud.class.getModifiers())
            && Modifier.isFinal(RowsAloud.class.getModifiers()));
        for (Class<?> inside : RowsAloud.class.getDeclaredClasses()) {
            checks.holds(inside.getSimpleName() + " is static and not public",
                Modifier.isStatic(inside.getModifiers()) && !Modifier.isPublic(inside.getModifiers()));
            for (Method m : inside.getDeclaredMethods()) {
                checks.holds(inside.getSimpleName() + "." + m.getName() + " has a name of its own", !publicNames.contains(m.getName()));
            }
        }
        checks.end();
    }
}
