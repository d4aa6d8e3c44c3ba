import java.io.IOException;
import java.lang.reflect.Constructor;
import java.lang.reflect.Executable;
import java.lang.reflect.Field;
import java.lang.reflect.Member;
import java.lang.reflect.Method;
import java.lang.reflect.Modifier;
import java.util.Arrays;
import java.util.Set;
import java.util.TreeSet;
import java.util.stream.Collectors;

/** The public face, as the document writes it down, and rule 1 of LANGUAGE.md: nothing else can be seen. */
public final class FaceTest {
    private static int wrong = 0;

    public static void main(String[] args) throws IOException {
        Class<?> type = LeaseServer.class;
        check(Modifier.isPublic(type.getModifiers()) && Modifier.isFinal(type.getModifiers()), "public and final");
        Set<String> publicNames = new TreeSet<>();
        Set<String> methods = new TreeSet<>();
        for (Method method : type.getDeclaredMethods()) {
            if (Modifier.isPublic(method.getModifiers())) {
                methods.add(text(method));
                publicNames.add(method.getName());
            } else {
                hidden(method);
            }
        }
        Constructor<?>[] constructors = type.getDeclaredConstructors();
        check(constructors.length == 1 && Modifier.isPublic(constructors[0].getModifiers()), "the constructor");
        for (Constructor<?> constructor : constructors) {
            methods.add(text("", constructor));
        }
        checkEqual(methods, Document.face());
        for (Field field : type.getDeclaredFields()) {
            hidden(field);
        }
        for (Class<?> inside : type.getDeclaredClasses()) {
            for (Method method : inside.getDeclaredMethods()) {
                check(!publicNames.contains(method.getName()), "the name of " + method);
            }
        }
        System.out.println(wrong + " wrong");
        System.exit(wrong == 0 ? 0 : 1);
    }

    /** Writes a method as the document does, but for "public" and the names of the parameters. */
    private static String text(Method method) {
        return text(method.getReturnType() + " ", method);
    }

    private static String text(String start, Executable method) {
        String parameters = joined(method.getParameterTypes());
        String exceptions = joined(method.getExceptionTypes());
        return start + method.getName() + "(" + parameters + ")" + (exceptions.isEmpty() ? "" : " throws " + exceptions);
    }

    private static String joined(Class<?>[] types) {
        return Arrays.stream(types).map(Class::getSimpleName).collect(Collectors.joining(", "));
    }

    private static void checkEqual(Set<String> methods, Set<String> due) {
        for (String method : due) {
            check(methods.contains(method), "there is no " + method);
        }
        for (String method : methods) {
            check(due.contains(method), "the document has no " + method);
        }
        check(due.size() == 38, "the face in the document has " + due.size() + " rows");
    }

    private static void hidden(Member member) {
        check(Modifier.isPrivate(member.getModifiers()) || member.isSynthetic(), "private: " + member);
    }

    private static void check(boolean good, String what) {
        if (!good) {
            wrong++;
            System.out.println("not as it should be: " + what);
        }
    }
}
