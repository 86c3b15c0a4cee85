import java.lang.reflect.Constructor;
import java.lang.reflect.Field;
import java.lang.reflect.Method;
import java.lang.reflect.Modifier;
import java.util.Arrays;
import java.util.Set;
import java.util.TreeSet;

/** The class shows the document's face and nothing beside it (LANGUAGE.md, rule 1). */
public final class FaceTest {
    private static final String[] FACE = {
        "int addMember(int,int)",
        "void move(int,int,int)",
        "boolean toggle(int)",
        "int setPriority(int,int)",
        "int setRange(int)",
        "boolean block(int,int)",
        "int members()",
        "int xOf(int)",
        "int yOf(int)",
        "boolean areLinked(int,int)",
        "int links()",
        "int degree(int)",
        "int groups()",
        "int leader(int)",
        "long trees()",
        "int setEstimate(int,int)",
        "int estimate(int)",
        "int agree(int)",
        "int setSum(int,int)",
        "int sum(int)",
        "int weight(int)",
        "int spread(int)",
        "int want(int,int,int)",
        "int error()",
        "int settle(int)",
        "int rank()",
        "int rankByCounting()",
        "boolean isRigid()",
        "boolean isSpare(int,int)",
    };

    public static void main(String[] args) {
        Check check = new Check();
        Class<?> face = Formationist.class;
        check.same("modifiers", Modifier.toString(face.getModifiers()), "public final");
        check.same("methods", shownMethods(face), new TreeSet<>(Arrays.asList(FACE)));
        check.same("fields", shownFields(face), new TreeSet<>(Arrays.asList("NONE")));
        Constructor<?>[] makers = face.getDeclaredConstructors();
        check.due("constructors", makers.length, 1);
        check.due("arguments of the constructor", makers[0].getParameterCount(), 0);
        check.due("public constructor", Modifier.isPublic(makers[0].getModifiers()), true);
        check.due("NONE", Formationist.NONE, -1);
        checkHiddenNames(check, face);
        check.finish();
    }

    private static Set<String> shownMethods(Class<?> face) {
        Set<String> shown = new TreeSet<>();
        for (Method method : face.getDeclaredMethods()) {
            if (!Modifier.isPrivate(method.getModifiers()) && !method.isSynthetic()) {
                shown.add(signature(method));
            }
        }
        return shown;
    }

    private static String signature(Method method) {
        StringBuilder text = new StringBuilder();
        text.append(method.getReturnType().getName()).append(' ').append(method.getName());
        String separator = "(";
        for (Class<?> type : method.getParameterTypes()) {
            text.append(separator).append(type.getName());
            separator = ",";
        }
        return text.append(method.getParameterCount() == 0 ? "()" : ")").toString();
    }

    private static Set<String> shownFields(Class<?> face) {
        Set<String> shown = new TreeSet<>();
        for (Field field : face.getDeclaredFields()) {
            if (!Modifier.isPrivate(field.getModifiers()) && !field.isSynthetic()) {
                shown.add(field.getName());
            }
        }
        return shown;
    }

    private static void checkHiddenNames(Check check, Class<?> face) {
        Set<String> publicNames = new TreeSet<>();
        for (String method : FACE) {
            publicNames.add(method.substring(method.indexOf(' ') + 1, method.indexOf('(')));
        }
        for (Class<?> inside : face.getDeclaredClasses()) {
            for (Method method : inside.getDeclaredMethods()) {
                String name = method.getName();
                check.due("public name " + name + " used inside", publicNames.contains(name),
                        false);
            }
        }
        for (Method method : face.getDeclaredMethods()) {
            boolean hidden = Modifier.isPrivate(method.getModifiers());
            boolean named = publicNames.contains(method.getName());
            check.due("private " + method.getName() + " bears a public name", hidden && named,
                    false);
        }
    }
}
