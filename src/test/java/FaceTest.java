import java.lang.reflect.Constructor;
import java.lang.reflect.Field;
import java.lang.reflect.Method;
import java.lang.reflect.Modifier;
import java.util.Set;
import java.util.TreeSet;

/** The public face is the document's and no wider, and the fields keep to LANGUAGE.md. */
public final class FaceTest {
    private static final String[] FACE = {
        "post(int,int,int)", "transfer(int,int,int)", "cancel(int)", "floor(int,int)", "open()", "close()",
        "isOpen()", "entries()", "cancelled(int)", "amountOf(int)", "sound()", "balance(int,int)",
        "lowest(int,int,int)", "total(int,int,int)", "firstBelow(int,int,int)", "free(int,int)",
        "firstFree(int,int)", "daysBelow(int,int)",
    };
    private static int wrong = 0;

    private static void check(boolean holds, String what) {
        if (!holds) {
            wrong++;
            System.out.println("not so: " + what);
        }
    }

    public static void main(String[] args) {
        checkClass();
        checkMethods();
        checkFields();
        System.out.println(wrong == 0 ? "the face is as due" : wrong + " faults in the face");
        if (wrong != 0) {
            System.exit(1);
        }
    }

    private static void checkClass() {
        int modifiers = BackdatedBook.class.getModifiers();
        check(Modifier.isPublic(modifiers) && Modifier.isFinal(modifiers), "the class is public and final");
        check(BackdatedBook.class.getSuperclass() == Object.class, "the class extends nothing");
        check(BackdatedBook.class.getInterfaces().length == 0, "the class implements nothing");
        check(BackdatedBook.class.getDeclaredClasses().length == 0, "there is no nested class");
        Constructor<?>[] constructors = BackdatedBook.class.getDeclaredConstructors();
        check(constructors.length == 1, "there is one constructor");
        check(Modifier.isPublic(constructors[0].getModifiers()), "the constructor is public");
        check(constructors[0].getParameterCount() == 0, "the constructor takes nothing");
    }

    private static void checkMethods() {
        Set<String> due = new TreeSet<>(Set.of(FACE));
        Set<String> found = new TreeSet<>();
        Set<String> openNames = new TreeSet<>();
        for (Method method : BackdatedBook.class.getDeclaredMethods()) {
            int modifiers = method.getModifiers();
            if (Modifier.isPrivate(modifiers)) {
                continue;
            }
            String text = signature(method);
            found.add(text);
            openNames.add(method.getName());
            check(Modifier.isPublic(modifiers) && !Modifier.isStatic(modifiers), text + " is public, not static");
            check(method.getReturnType() == int.class, text + " answers an int");
        }
        check(found.equals(due), "the methods " + found + " are " + due);
        for (Method method : BackdatedBook.class.getDeclaredMethods()) {
            boolean shared = Modifier.isPrivate(method.getModifiers()) && openNames.contains(method.getName());
            check(!shared, "private " + method.getName() + " has a name of its own");
            check(method.getParameterCount() <= 7, method.getName() + " takes at most seven parameters");
        }
    }

    private static String signature(Method method) {
        StringBuilder text = new StringBuilder(method.getName()).append('(');
        Class<?>[] types = method.getParameterTypes();
        for (int i = 0; i < types.length; i++) {
            text.append(i == 0 ? "" : ",").append(types[i].getName());
        }
        return text.append(')').toString();
    }

    private static void checkFields() {
        for (Field field : BackdatedBook.class.getDeclaredFields()) {
            String name = field.getName();
            int modifiers = field.getModifiers();
            Class<?> type = field.getType();
            check(Modifier.isPrivate(modifiers), name + " is private");
            if (Modifier.isStatic(modifiers)) {
                check(Modifier.isFinal(modifiers), name + " is a constant");
                check(type == int.class || type == long.class, name + " is an int or a long");
                continue;
            }
            Class<?> element = type.isArray() ? type.getComponentType() : type;
            check(element.isPrimitive(), name + " holds numbers or truths, in one dimension");
            check(element != float.class && element != double.class, name + " holds no fractions");
        }
    }
}
