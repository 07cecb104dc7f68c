import java.lang.reflect.Constructor;
import java.lang.reflect.Field;
import java.lang.reflect.Method;
import java.lang.reflect.Modifier;
import java.util.Arrays;
import java.util.Set;
import java.util.TreeSet;

/** The public face: just what the document lists, and no other member that can be seen. */
final class FaceTest {
    private static final String[] METHODS = {
        "int add(int,int,int,int,int)", "int both(int,int)", "int count(int)", "int cut(int)", "int deed(int)",
        "int drop(int,boolean)", "int find()", "int fit(int,int)", "int follows(int,int)", "int join(int,int,int)",
        "int lag(int,int,int)", "int like(int,int)", "int more(int,int)", "int open()", "int passes(int,int)",
        "int piece(int,int)", "int plain(int)", "int price(int,int)", "int shortest(int)", "int slow(int)",
        "int stands(int,int)", "int told(int,int,int)", "int work(int,int)"};
    private static final String[] CONSTANTS = {"int BAD", "int FULL", "int NONE"};

    public static void main(String[] args) {
        Check check = new Check("FaceTest");
        Class<?> face = TrailFinder.class;
        check.due("public final", face.getModifiers(), Modifier.PUBLIC | Modifier.FINAL);
        Set<String> names = new TreeSet<>();
        Set<String> methods = new TreeSet<>();
        for (Method method : face.getDeclaredMethods()) {
            if (!Modifier.isPrivate(method.getModifiers())) {
                methods.add(told(method));
                names.add(method.getName());
            }
        }
        check.due("methods " + methods, methods.equals(new TreeSet<>(Arrays.asList(METHODS))));
        for (Method method : face.getDeclaredMethods()) {
            boolean hidden = Modifier.isPrivate(method.getModifiers());
            check.due("no private " + method.getName(), !hidden || !names.contains(method.getName()));
        }
        checkFields(check, face);
        Constructor<?>[] made = face.getDeclaredConstructors();
        check.due("constructors", made.length, 1);
        check.due("constructor's parameters", made[0].getParameterCount(), 0);
        check.due("constructor is public", Modifier.isPublic(made[0].getModifiers()));
        check.due("BAD", TrailFinder.BAD, -1);
        check.due("FULL", TrailFinder.FULL, -2);
        check.due("NONE", TrailFinder.NONE, -3);
        check.end();
    }

    private static void checkFields(Check check, Class<?> face) {
        Set<String> constants = new TreeSet<>();
        for (Field field : face.getDeclaredFields()) {
            int is = field.getModifiers();
            if (!Modifier.isPrivate(is)) constants.add(field.getType().getSimpleName() + " " + field.getName());
            check.due("static is final: " + field, !Modifier.isStatic(is) || Modifier.isFinal(is));
        }
        check.due("constants " + constants, constants.equals(new TreeSet<>(Arrays.asList(CONSTANTS))));
    }

    private static String told(Method method) {
        StringBuilder text = new StringBuilder(method.getReturnType().getSimpleName());
        text.append(' ').append(method.getName()).append('(');
        String gap = "";
        for (Class<?> type : method.getParameterTypes()) {
            text.append(gap).append(type.getSimpleName());
            gap = ",";
        }
        return text.append(')').toString();
    }
}
