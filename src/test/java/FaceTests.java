import java.lang.reflect.Constructor;
import java.lang.reflect.Field;
import java.lang.reflect.Method;
import java.lang.reflect.Modifier;
import java.util.Arrays;
import java.util.Set;
import java.util.TreeSet;

/** The public face as the document tells it, and nothing beside it. */
public final class FaceTests {
    private static final String[] FACE = {
        "boolean rails(int)", "int feed(int,int,int,int,int)", "int word(int)", "int change(int,int)",
        "boolean round()", "boolean caps()", "long signs(int)", "int joined(int,int)", "long length(int,int)",
        "long loops(int,int)", "int power(int,int)", "long rule(int,int)", "long left(int,long)",
        "long those(int,long,long,long)", "long first(int,long)", "int both(int,int,int)", "int is(int,int)",
        "int many(int,int,int)", "int made(int)", "int shortest(int,int,int)", "boolean cost(int,int)",
        "int cheapest(int,int,int)", "int mend(int)", "int back(int)", "int walk(int,int,int)", "int check(int)",
        "int count(int)"};

    private FaceTests() {
    }

    public static void main(String[] args) throws Exception {
        Class<?> face = MirrorLane.class;
        Checks.due("public final", Modifier.isPublic(face.getModifiers()) && Modifier.isFinal(face.getModifiers()), true);
        Checks.due("no package", face.getPackageName().isEmpty(), true);
        Set<String> names = methods(face);
        constants(face);
        Constructor<?>[] constructors = face.getDeclaredConstructors();
        Checks.due("constructors", constructors.length, 1);
        Checks.due("its parameters", constructors[0].getParameterCount(), 0);
        Checks.due("public", Modifier.isPublic(constructors[0].getModifiers()), true);
        inside(face, names);
        Checks.end();
    }

    private static Set<String> methods(Class<?> face) {
        Set<String> due = new TreeSet<>(Arrays.asList(FACE));
        Set<String> names = new TreeSet<>();
        for (Method method : face.getDeclaredMethods()) {
            if (Modifier.isPrivate(method.getModifiers()) || method.isSynthetic()) {
                continue;
            }
            StringBuilder told = new StringBuilder();
            for (Class<?> type : method.getParameterTypes()) {
                told.append(told.length() == 0 ? "" : ",").append(type.getName());
            }
            String text = method.getReturnType().getName() + " " + method.getName() + "(" + told + ")";
            Checks.due("in the document: " + text, due.remove(text), true);
            Checks.due("public: " + text, Modifier.isPublic(method.getModifiers()), true);
            Checks.due("not static: " + text, Modifier.isStatic(method.getModifiers()), false);
            names.add(method.getName());
        }
        Checks.due("missing " + due, due.size(), 0);
        return names;
    }

    private static void constants(Class<?> face) throws Exception {
        for (Field field : face.getDeclaredFields()) {
            boolean open = !Modifier.isPrivate(field.getModifiers());
            Checks.due("open only if told: " + field, open, field.getName().equals("NONE"));
        }
        Field none = face.getDeclaredField("NONE");
        int constant = Modifier.PUBLIC | Modifier.STATIC | Modifier.FINAL;
        Checks.due("NONE is a constant", none.getModifiers() & constant, constant);
        Checks.due("NONE", none.getInt(null), -1);
    }

    /** The classes inside, and that no private method anywhere bears the name of a public one. */
    private static void inside(Class<?> face, Set<String> names) {
        int classes = 1;
        for (Class<?> inner : face.getDeclaredClasses()) {
            classes++;
            Checks.due("static " + inner, Modifier.isStatic(inner.getModifiers()), true);
            boolean open = Modifier.isPublic(inner.getModifiers()) || Modifier.isProtected(inner.getModifiers());
            Checks.due("open " + inner, open, false);
            Checks.due("nothing inside " + inner, inner.getDeclaredClasses().length, 0);
            members(inner, names, false);
        }
        members(face, names, true);
        Checks.due("twelve classes", classes <= 12, true);
    }

    private static void members(Class<?> type, Set<String> names, boolean face) {
        int fields = 0;
        for (Field field : type.getDeclaredFields()) {
            boolean fixed = Modifier.isStatic(field.getModifiers());
            fields += fixed ? 0 : 1;
            Checks.due("static is final: " + field, fixed && !Modifier.isFinal(field.getModifiers()), false);
        }
        Checks.due("twenty fields in " + type, fields <= 20, true);
        for (Method method : type.getDeclaredMethods()) {
            boolean told = face && Modifier.isPublic(method.getModifiers());
            Checks.due("name of a public one: " + method, !told && names.contains(method.getName()), false);
            Checks.due("seven parameters: " + method, method.getParameterCount() <= 7, true);
        }
    }
}
