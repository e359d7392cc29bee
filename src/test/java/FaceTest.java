import java.lang.reflect.Constructor;
import java.lang.reflect.Field;
import java.lang.reflect.Method;
import java.lang.reflect.Modifier;
import java.util.Set;
import java.util.TreeSet;

/** The public face: every constructor and method of the document, and no other member. */
public final class FaceTest {
    private static final String[] FACE = {
        "int say(int,int,int)", "int said(int)", "int person(int,int)", "int of(int,int)", "int change(int,int,int)",
        "int feels(int,int)", "int bearer(int,int)", "int go(int)", "int now(int)", "int ahead(int,int,int)",
        "int hints(int)", "int even()", "int when(int,int)", "int clean(int)", "int whom(int)", "int weightFor(int)",
        "int buildFor(int,int)", "int kindFor(int,int)", "int refuse(int,int,int)", "int swapFor(int)",
        "int fits(int,int)", "int weighed(int,int)", "int kinds(int,int)", "int gossip(int)", "long odds(int,int)",
        "int seed(int)", "int feed(int,int)", "int wipe()", "int text()", "int hold(int,int)", "int as(int,int)",
        "int sheet(int,int,int)", "int write(int,int,int)", "int copy(int,int,int,int,int)", "int load(int)",
        "int judge(int)", "int image()", "int undo()", "int tear()", "int count(int)", "int status(int)",
    };

    public static void main(String[] args) {
        Class<?> face = ScandalCounter.class;
        Due.due("the class is public and final", face.getModifiers(), Modifier.PUBLIC | Modifier.FINAL);
        Set<String> visible = new TreeSet<>();
        Set<String> publicNames = new TreeSet<>();
        Set<String> privateNames = new TreeSet<>();
        for (Method method : face.getDeclaredMethods()) {
            if (Modifier.isPrivate(method.getModifiers())) {
                privateNames.add(method.getName());
            } else {
                visible.add(signature(method));
                publicNames.add(method.getName());
                Due.due(method + " is public", Modifier.isPublic(method.getModifiers()) ? 1 : 0, 1);
            }
        }
        Set<String> due = new TreeSet<>(Set.of(FACE));
        Due.due("methods are " + visible, visible.equals(due) ? 1 : 0, 1);
        Due.due("there are some twelve classes at most", face.getDeclaredClasses().length < 12 ? 1 : 0, 1);
        Due.due("some twenty fields at most", fieldsOf(face) <= 20 ? 1 : 0, 1);
        inside(face, privateNames);
        privateNames.retainAll(publicNames);
        Due.due("private methods with a public name: " + privateNames, privateNames.size(), 0);
        for (Field field : face.getDeclaredFields()) {
            Due.due(field + " is private", Modifier.isPrivate(field.getModifiers()) ? 1 : 0, 1);
        }
        Constructor<?>[] constructors = face.getDeclaredConstructors();
        Due.due("constructors", constructors.length, 1);
        Due.due("parameters", constructors[0].getParameterCount(), 0);
        Due.due("constructor", constructors[0].getModifiers(), Modifier.PUBLIC);
        Due.end();
    }

    private static void inside(Class<?> face, Set<String> names) {
        for (Class<?> nested : face.getDeclaredClasses()) {
            Due.due(nested + " is static", Modifier.isStatic(nested.getModifiers()) ? 1 : 0, 1);
            Due.due(nested + " is not public", Modifier.isPublic(nested.getModifiers()) ? 1 : 0, 0);
            Due.due(nested + " has some twenty fields at most", fieldsOf(nested) <= 20 ? 1 : 0, 1);
            for (Method method : nested.getDeclaredMethods()) {
                names.add(method.getName());
            }
        }
    }

    private static int fieldsOf(Class<?> one) {
        int fields = 0;
        for (Field field : one.getDeclaredFields()) {
            fields += Modifier.isStatic(field.getModifiers()) ? 0 : 1;
            Due.due(field + " is final, if it is static", field.getModifiers() & (Modifier.STATIC | Modifier.FINAL),
                    Modifier.isStatic(field.getModifiers()) ? Modifier.STATIC | Modifier.FINAL
                            : field.getModifiers() & Modifier.FINAL);
        }
        return fields;
    }

    private static String signature(Method method) {
        StringBuilder text = new StringBuilder();
        text.append(method.getReturnType()).append(' ').append(method.getName()).append('(');
        Class<?>[] types = method.getParameterTypes();
        for (int i = 0; i < types.length; i++) {
            text.append(i == 0 ? "" : ",").append(types[i]);
        }
        return text.append(')').toString();
    }
}
