import java.lang.reflect.Constructor;
import java.lang.reflect.Field;
import java.lang.reflect.Method;
import java.lang.reflect.Modifier;
import java.util.Arrays;
import java.util.Set;
import java.util.TreeSet;

/** The class shows the document's face, throws clauses and all, and nothing beside it. */
public final class FaceTest {
    private static final String[] FACE = {
        "int addMember(int,int) throws IllegalArgumentException,IllegalStateException",
        "void move(int,int,int) throws IndexOutOfBoundsException,IllegalArgumentException",
        "boolean toggle(int) throws IndexOutOfBoundsException",
        "int setPriority(int,int) throws IndexOutOfBoundsException,IllegalArgumentException",
        "int setRange(int) throws IllegalArgumentException",
        "boolean block(int,int) throws IndexOutOfBoundsException,IllegalArgumentException",
        "int members()",
        "int xOf(int) throws IndexOutOfBoundsException",
        "int yOf(int) throws IndexOutOfBoundsException",
        "boolean areLinked(int,int) throws IndexOutOfBoundsException",
        "int links()",
        "int degree(int) throws IndexOutOfBoundsException",
        "int groups()",
        "int leader(int) throws IndexOutOfBoundsException",
        "long trees()",
        "int setEstimate(int,int) throws IndexOutOfBoundsException,IllegalArgumentException",
        "int estimate(int) throws IndexOutOfBoundsException",
        "int agree(int) throws IllegalArgumentException",
        "int setSum(int,int) throws IndexOutOfBoundsException,IllegalArgumentException",
        "int sum(int) throws IndexOutOfBoundsException",
        "int weight(int) throws IndexOutOfBoundsException",
        "int spread(int) throws IllegalArgumentException",
        "int want(int,int,int) throws IndexOutOfBoundsException,IllegalArgumentException",
        "int error()",
        "int settle(int) throws IllegalArgumentException",
        "int rank()",
        "int rankByCounting()",
        "boolean isRigid()",
        "boolean isSpare(int,int) throws IndexOutOfBoundsException,NoSuchElementException",
    };

    public static void main(String[] args) {
        Check check = new Check();
        Class<?> face = Formationist.class;
        check.same("modifiers", Modifier.toString(face.getModifiers()), "public final");
        check.same("methods", shownMethods(face), new TreeSet<>(Arrays.asList(FACE)));
        check.same("fields", shownFields(face), new TreeSet<>(Arrays.asList("NONE")));
        Constructor<?>[] makers = face.getDeclaredConstructors();
        check.due("constructors", makers.length, 1);
        check.due("arguments of the constructor", makers[0].getParameterCount(), 0);
        check.due("public constructor", Modifier.isPublic(makers[0].getModifiers()), true);
        check.due("NONE", Formationist.NONE, -1);
        checkHiddenNames(check, face);
        check.finish();
    }

    private static Set<String> shownMethods(Class<?> face) {
        Set<String> shown = new TreeSet<>();
        for (Method method : face.getDeclaredMethods()) {
            if (!Modifier.isPrivate(method.getModifiers()) && !method.isSynthetic()) {
                shown.add(signature(method));
            }
        }
        return shown;
    }

    private static String signature(Method method) {
        StringBuilder text = new StringBuilder();
        text.append(method.getReturnType().getName()).append(' ').append(method.getName());
        String separator = "(";
        for (Class<?> type : method.getParameterTypes()) {
            text.append(separator).append(type.getName());
            separator = ",";
        }
        text.append(method.getParameterCount() == 0 ? "()" : ")");
        separator = " throws ";
        for (Class<?> type : method.getExceptionTypes()) {
            text.append(separator).append(type.getSimpleName());
            separator = ",";
        }
        return text.toString();
    }

    private static Set<String> shownFields(Class<?> face) {
        Set<String> shown = new TreeSet<>();
        for (Field field : face.getDeclaredFields()) {
            if (!Modifier.isPrivate(field.getModifiers()) && !field.isSynthetic()) {
                shown.add(field.getName());
            }
        }
        return shown;
    }

    private static void checkHiddenNames(Check check, Class<?> face) {
        Set<String> publicNames = new TreeSet<>();
        for (String method : FACE) {
            publicNames.add(method.substring(method.indexOf(' ') + 1, method.indexOf('(')));
        }
        for (Class<?> inside : face.getDeclaredClasses()) {
            for (Method method : inside.getDeclaredMethods()) {
                String name = method.getName();
                check.due("public name " + name + " used inside", publicNames.contains(name),
                        false);
            }
        }
        for (Method method : face.getDeclaredMethods()) {
            boolean hidden = Modifier.isPrivate(method.getModifiers());
            boolean named = publicNames.contains(method.getName());
            check.due("private " + method.getName() + " bears a public name", hidden && named,
                    false);
        }
    }
}
