import java.lang.reflect.Constructor;
import java.lang.reflect.Field;
import java.lang.reflect.Method;
import java.lang.reflect.Modifier;
import java.util.Set;
import java.util.TreeSet;

/** The public face: the constants, the constructor and the methods that the document has, and no others. */
public final class FaceTest {
    private static final String[] METHODS = {
            "int feed(int, int, int, int, int)", "boolean end(int)", "int fault(int)", "int text(int)",
            "int thing(int, int, int, boolean, int, int)", "int sized(int, int, int)", "int size(int, int)",
            "int page(int, int) throws NoSuchElementException", "boolean most(int)", "int hold(int, int, int, int)",
            "int dishes(int)", "int dish(int, int, int)", "int span(int, int, int)", "int shared(int)",
            "int worth(int, int, int)", "int range(int, int, int)", "int weigh(int)", "int trial(int, int, boolean)",
            "int stands(int, int, int)", "int stand(int, int, int)", "int book(int)", "boolean slip(int, int, int)",
            "boolean reads(int, int)", "int cost(int)", "long ways(int)", "int first()", "int could(int)",
            "int day(int, boolean)", "boolean bought(int, int, int)", "int may(int, int)",
            "int menu(int, int, int, int)", "int messes(int, int, int, int, int)", "int months(int)",
            "int far(int, int)", "int came(int)", "int tree()", "boolean wrote(int, int)", "int leaves(int, int, int)",
            "int twice(int)", "int weight(int, int, int)", "int serves(int, int, int, int)",
            "int boil(int, int, int, int)", "int changed(int, int)", "int line(int)", "int stem(int, int)",
            "int guess(int, int)", "int nearest(int)", "int lacking(int, int, int, int)", "int enough(int, int, int)",
            "int wasted(int, int, int, int)", "int lean(int, int, int, int)", "int softer(int, int, int)",
            "int swapped(int, int, int)", "int count(int)"};

    public static void main(String[] args) throws Exception {
        theClass();
        constants();
        methods();
        Due.close("FaceTest");
    }

    private static void theClass() {
        Due.same("public and final", PotBook.class.getModifiers(), Modifier.PUBLIC | Modifier.FINAL);
        Due.is("without a package", PotBook.class.getPackageName().isEmpty(), true);
        Due.is("of no other class", PotBook.class.getSuperclass() == Object.class, true);
        Due.same("of no interface", PotBook.class.getInterfaces().length, 0);
        Constructor<?>[] all = PotBook.class.getDeclaredConstructors();
        Due.same("one constructor", all.length, 1);
        Due.same("without arguments", all[0].getParameterCount(), 0);
        Due.is("a public one", Modifier.isPublic(all[0].getModifiers()), true);
        for (Class<?> inside : PotBook.class.getDeclaredClasses()) {
            int how = inside.getModifiers();
            Due.is(inside + " is static and not public", Modifier.isStatic(how) && !Modifier.isPublic(how)
                    && !Modifier.isProtected(how), true);
        }
    }

    private static void constants() throws Exception {
        Set<String> open = new TreeSet<>();
        for (Field f : PotBook.class.getDeclaredFields()) {
            if (!Modifier.isPrivate(f.getModifiers())) {
                open.add(Modifier.toString(f.getModifiers()) + " " + f.getType() + " " + f.getName() + " = " + f.get(null));
            }
        }
        Set<String> due = Set.of("public static final int NONE = -1", "public static final int HIDDEN = -10000000");
        Due.is("constants " + open, open.equals(due), true);
    }

    private static String told(Method m) {
        StringBuilder types = new StringBuilder();
        for (Class<?> type : m.getParameterTypes()) {
            types.append(types.length() > 0 ? ", " : "").append(type.getSimpleName());
        }
        StringBuilder thrown = new StringBuilder();
        for (Class<?> type : m.getExceptionTypes()) {
            thrown.append(" throws ").append(type.getSimpleName());
        }
        return m.getReturnType() + " " + m.getName() + "(" + types + ")" + thrown;
    }

    private static void methods() {
        Set<String> open = new TreeSet<>();
        Set<String> names = new TreeSet<>();
        for (Method m : PotBook.class.getDeclaredMethods()) {
            if (!Modifier.isPrivate(m.getModifiers())) {
                Due.is(m + " is public and its own", m.getModifiers() == Modifier.PUBLIC, true);
                open.add(told(m));
                names.add(m.getName());
            }
        }
        for (String due : METHODS) {
            Due.is("the face has " + due, open.contains(due), true);
        }
        Due.same("so many methods", open.size(), METHODS.length);
        for (Method m : PotBook.class.getDeclaredMethods()) {
            Due.is(m + " bears a name of the face", Modifier.isPrivate(m.getModifiers()) && names.contains(m.getName()), false);
        }
    }
}
