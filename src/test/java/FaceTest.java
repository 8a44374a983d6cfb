import java.lang.reflect.Constructor;
import java.lang.reflect.Field;
import java.lang.reflect.Member;
import java.lang.reflect.Method;
import java.lang.reflect.Modifier;
import java.util.ArrayList;
import java.util.Arrays;
import java.util.List;
import java.util.TreeSet;

/** The public face is just the document's, and nothing beside it is open. */
public final class FaceTest {
    private static final String[] FACE = {
        "int status()", "long top()", "long bottom()", "boolean sheet(int,int,int)", "boolean write(int,int,long)",
        "long read(int,int)", "boolean copy(int,int,int,int,int)", "boolean drop(int)", "boolean none()",
        "boolean numbers(int,int,int)", "boolean gap(int)", "boolean table(int,int,int)", "int takes(boolean,int)",
        "int odds(int,int,int)", "int choose(int,int,int,int,int,int,int,int,int)", "boolean begin()",
        "boolean mending(boolean)", "boolean keep(int,boolean)", "int writes(int)", "int reads(int,int)",
        "int go(int)", "boolean down(int,boolean)", "int up(int)", "int sweep(int,int)", "int of(int,int)",
        "int done(int)", "int got(int,int)", "int tell(int)"
    };

    private static String told(Method method) {
        List<String> types = new ArrayList<>();
        for (Class<?> type : method.getParameterTypes()) {
            types.add(type.getSimpleName());
        }
        return method.getReturnType().getSimpleName() + " " + method.getName() + "(" + String.join(",", types) + ")";
    }

    private static boolean isOpen(Member member) {
        return !Modifier.isPrivate(member.getModifiers());
    }

    public static void main(String[] args) throws ReflectiveOperationException {
        Due due = new Due().in("the face");
        TreeSet<String> open = new TreeSet<>();
        TreeSet<String> names = new TreeSet<>();
        for (Method method : ReadAge.class.getDeclaredMethods()) {
            if (isOpen(method)) {
                open.add(told(method));
                names.add(method.getName());
                due.is(told(method) + " is public", method.getModifiers(), Modifier.PUBLIC);
            }
        }
        TreeSet<String> face = new TreeSet<>(Arrays.asList(FACE));
        due.is("28 methods", face.size(), 28);
        for (String method : face) {
            due.is("has " + method, open.contains(method), true);
        }
        for (String method : open) {
            due.is("may have " + method, face.contains(method), true);
        }
        List<Method> others = new ArrayList<>();
        for (Class<?> inside : ReadAge.class.getDeclaredClasses()) {
            others.addAll(Arrays.asList(inside.getDeclaredMethods()));
        }
        for (Method method : ReadAge.class.getDeclaredMethods()) {
            if (!isOpen(method)) {
                others.add(method);
            }
        }
        for (Method method : others) {
            due.is(told(method) + " bears a public one's name", names.contains(method.getName()), false);
        }
        for (Field field : ReadAge.class.getDeclaredFields()) {
            due.is("field " + field.getName() + " is open", isOpen(field), field.getName().equals("NONE"));
        }
        int constant = Modifier.PUBLIC | Modifier.STATIC | Modifier.FINAL;
        due.is("NONE", ReadAge.class.getField("NONE").getModifiers(), constant);
        due.is("NONE", ReadAge.NONE, -1);
        due.is("the class", ReadAge.class.getModifiers(), Modifier.PUBLIC | Modifier.FINAL);
        due.is("its package", ReadAge.class.getPackageName().isEmpty(), true);
        Constructor<?>[] constructors = ReadAge.class.getDeclaredConstructors();
        due.is("constructors", constructors.length, 1);
        due.is("of no parameters", constructors[0].getParameterCount(), 0);
        due.is("public", constructors[0].getModifiers(), Modifier.PUBLIC);
        Due.end(due);
    }
}
