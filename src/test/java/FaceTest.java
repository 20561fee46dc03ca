import java.lang.reflect.Constructor;
import java.lang.reflect.Field;
import java.lang.reflect.Method;
import java.lang.reflect.Modifier;
import java.util.Set;
import java.util.TreeSet;

/** The public face, just as the document prints it, and nothing beside it. */
public final class FaceTest {
    private static final String[] METHODS = {
        "say(int)", "wipe()", "fault(int)", "house()", "tube(int,int)", "set(int,int)", "way(int,int,int)",
        "loud(int,int,int)", "heard(int,int)", "judge(int)", "day(int)", "know(int,int)", "knows(int,int)",
        "call(int,int,int,int)", "clear()", "soonest(int)", "byDue(int)", "locked(int,int)",
        "tried(int,int,boolean)", "forget()", "stopped(int)", "far(int,int)", "further(int,int)", "bridges()",
        "image(int)", "restore(int)", "told(int)"};

    public static void main(String[] args) throws Exception {
        Class<?> face = SpeakTubes.class;
        Check.due("modifiers", face.getModifiers(), Modifier.PUBLIC | Modifier.FINAL);
        constants(face);
        constructors(face);
        methods(face);
        for (Class<?> inside : face.getDeclaredClasses()) {
            Check.isTrue("static " + inside, Modifier.isStatic(inside.getModifiers()));
            Check.isTrue("not public " + inside, (inside.getModifiers() & (Modifier.PUBLIC | Modifier.PROTECTED)) == 0);
        }
        Check.isTrue("twelve classes at most", face.getDeclaredClasses().length < 12);
        Check.end("FaceTest");
    }

    private static void constants(Class<?> face) throws Exception {
        String[] names = {"UNKNOWN", "OUTSIDE", "STATE", "FULL", "NO", "NONE"};
        for (int i = 0; i < names.length; i++) {
            Field field = face.getField(names[i]);
            Check.due(names[i], field.getInt(null), -1 - i);
            Check.due(names[i] + " modifiers", field.getModifiers(), Modifier.PUBLIC | Modifier.STATIC | Modifier.FINAL);
        }
        int open = 0;
        for (Field field : face.getDeclaredFields()) {
            if (!Modifier.isPrivate(field.getModifiers())) {
                open++;
            }
        }
        Check.due("constants", open, names.length);
        Check.due("fields", face.getDeclaredFields().length <= 40 ? 1 : 0, 1);
    }

    private static void constructors(Class<?> face) {
        Constructor<?>[] all = face.getDeclaredConstructors();
        Check.due("constructors", all.length, 1);
        Check.due("constructor's modifiers", all[0].getModifiers(), Modifier.PUBLIC);
        Check.due("constructor's parameters", all[0].getParameterCount(), 0);
    }

    private static void methods(Class<?> face) {
        Set<String> due = new TreeSet<>(Set.of(METHODS));
        Set<String> names = new TreeSet<>();
        for (Method method : face.getDeclaredMethods()) {
            if (Modifier.isPublic(method.getModifiers())) {
                Check.isTrue("due: " + written(method), due.remove(written(method)));
                Check.isTrue("answers int: " + method, method.getReturnType() == int.class);
                Check.due("modifiers of " + method, method.getModifiers(), Modifier.PUBLIC);
                names.add(method.getName());
            }
        }
        Check.isTrue("missing: " + due, due.isEmpty());
        for (Method method : face.getDeclaredMethods()) {
            Check.isTrue("private: " + method, Modifier.isPublic(method.getModifiers()) || Modifier.isPrivate(method.getModifiers()));
            Check.isTrue("a name of its own: " + method, Modifier.isPublic(method.getModifiers()) || !names.contains(method.getName()));
        }
        for (Class<?> inside : face.getDeclaredClasses()) {
            for (Method method : inside.getDeclaredMethods()) {
                Check.isTrue("a name of its own: " + method, !names.contains(method.getName()));
            }
        }
    }

    private static String written(Method method) {
        StringBuilder text = new StringBuilder(method.getName()).append('(');
        for (Class<?> parameter : method.getParameterTypes()) {
            text.append(text.charAt(text.length() - 1) == '(' ? "" : ",").append(parameter.getName());
        }
        return text.append(')').toString();
    }
}
