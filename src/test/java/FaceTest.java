import java.lang.reflect.Constructor;
import java.lang.reflect.Field;
import java.lang.reflect.Member;
import java.lang.reflect.Method;
import java.lang.reflect.Modifier;
import java.util.Arrays;
import java.util.Set;
import java.util.TreeSet;

/** The public face of the document, and rule 1 of LANGUAGE.md: nothing else can be seen. */
public final class FaceTest {
    private static final String FACE = """
        boolean exclude(int, boolean)
        boolean renew(int)
        boolean setDirect(int, boolean)
        boolean setRelay(int, boolean)
        boolean setStranger(int, boolean)
        double utilization(int)
        float averageRest()
        int accept(int)
        int addPool(int, int, int, int)
        int addressOf(int)
        int addressState(int)
        int advance(int)
        int advanceToEvent()
        int bound()
        int clientState(int)
        int conflicts()
        int countState(int, int)
        int decline(int)
        int discover(int, int, int)
        int freeSince(int)
        int holder(int)
        int log(int)
        int logSize()
        int nextCandidate(int, int)
        int pool(int, int)
        int poolCount()
        int poolOf(int)
        int release(int)
        int remembered(int)
        int removePool(int)
        int restore()
        int save()
        int setHold(int)
        int setQuarantine(int)
        int time()
        int timer(int, int)
        int until(int)
        """;

    private static int wrong = 0;

    public static void main(String[] args) {
        Class<?> type = LeaseServer.class;
        check(Modifier.isPublic(type.getModifiers()) && Modifier.isFinal(type.getModifiers()), "public and final");
        Set<String> publicNames = new TreeSet<>();
        Set<String> methods = new TreeSet<>();
        for (Method method : type.getDeclaredMethods()) {
            if (Modifier.isPublic(method.getModifiers())) {
                methods.add(text(method));
                publicNames.add(method.getName());
            } else {
                hidden(method);
            }
        }
        check(methods.equals(new TreeSet<>(Arrays.asList(FACE.strip().split("\n")))), "the methods " + methods);
        Constructor<?>[] constructors = type.getDeclaredConstructors();
        check(constructors.length == 1 && Modifier.isPublic(constructors[0].getModifiers())
            && constructors[0].getParameterCount() == 0, "the constructor");
        for (Field field : type.getDeclaredFields()) {
            hidden(field);
        }
        for (Class<?> inside : type.getDeclaredClasses()) {
            for (Method method : inside.getDeclaredMethods()) {
                check(!publicNames.contains(method.getName()), "the name of " + method);
            }
        }
        System.out.println(wrong + " wrong");
        System.exit(wrong == 0 ? 0 : 1);
    }

    private static String text(Method method) {
        String parameters = "";
        for (Class<?> parameter : method.getParameterTypes()) {
            parameters += (parameters.isEmpty() ? "" : ", ") + parameter;
        }
        return method.getReturnType() + " " + method.getName() + "(" + parameters + ")";
    }

    private static void hidden(Member member) {
        check(Modifier.isPrivate(member.getModifiers()) || member.isSynthetic(), "private: " + member);
    }

    private static void check(boolean good, String what) {
        if (!good) {
            wrong++;
            System.out.println("not as it should be: " + what);
        }
    }
}
