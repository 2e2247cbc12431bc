import java.lang.reflect.Constructor;
import java.lang.reflect.Field;
import java.lang.reflect.Method;
import java.lang.reflect.Modifier;
import java.util.Arrays;
import java.util.Set;
import java.util.TreeSet;

/** The public face is the document's, and nothing beside it can be seen (LANGUAGE.md, rule 1). */
public final class FaceTest {
    private static final String FACE = String.join("\n",
        "int thing(int,int,int,int)", "int of(int,int)", "int set(int,int,int)", "int melts(int,int)",
        "int row(int,int,int)", "int feed(int)", "int col()", "int told(int)", "int pass(int)", "int on(int,int)",
        "int by(int,int,int)", "int need(int,int,int)", "int see(int,int,boolean)", "int can(int,int,int)",
        "long odds(int,int,int)", "long mean(int,int)", "int plan(int,int)", "int ends(int)", "int book(int,int)",
        "int looked()", "int judge(int,int)", "int image()", "int undo()", "int act(int,int,int)", "int trace(int)",
        "int taken(int,int)", "int count(int)", "int tape(int,int,int)", "int item(int,int,long)",
        "long read(int,int)", "int shift(int,int,int,int,int)");

    public static void main(String[] args) {
        Check check = new Check();
        check.due("NONE", ThawGives.NONE, -1);
        check.due("BAD", ThawGives.BAD, -2);
        check.due("STATE", ThawGives.STATE, -3);
        check.due("FULL", ThawGives.FULL, -4);
        check.due("NO", ThawGives.NO, Long.MIN_VALUE);

        Set<String> seen = new TreeSet<>();
        Set<String> publicNames = new TreeSet<>();
        for (Method method : ThawGives.class.getDeclaredMethods()) {
            if (!Modifier.isPrivate(method.getModifiers())) {
                check.due(method + " is public alone", method.getModifiers(), Modifier.PUBLIC);
                seen.add(told(method));
                publicNames.add(method.getName());
            }
        }
        Set<String> due = new TreeSet<>(Arrays.asList(FACE.split("\n")));
        check.due("the methods " + seen + " are as told", seen.equals(due) ? 1 : 0, 1);

        int visibleFields = 0;
        for (Field field : ThawGives.class.getDeclaredFields()) {
            if (!Modifier.isPrivate(field.getModifiers())) {
                visibleFields++;
            }
        }
        check.due("fields that can be seen", visibleFields, 5);

        Constructor<?>[] constructors = ThawGives.class.getDeclaredConstructors();
        check.due("constructors", constructors.length, 1);
        check.due("the constructor is public", constructors[0].getModifiers(), Modifier.PUBLIC);
        check.due("parameters of the constructor", constructors[0].getParameterCount(), 0);
        check.due("the class is public and final", ThawGives.class.getModifiers(), Modifier.PUBLIC | Modifier.FINAL);

        checkInside(check, publicNames);
        check.end();
    }

    private static void checkInside(Check check, Set<String> publicNames) {
        checkPrivateNames(check, ThawGives.class, publicNames);
        for (Class<?> inside : ThawGives.class.getDeclaredClasses()) {
            int visibility = inside.getModifiers() & (Modifier.PUBLIC | Modifier.PROTECTED | Modifier.STATIC);
            check.due(inside + " is static and not public", visibility, Modifier.STATIC);
            checkPrivateNames(check, inside, publicNames);
        }
    }

    private static void checkPrivateNames(Check check, Class<?> type, Set<String> publicNames) {
        for (Method method : type.getDeclaredMethods()) {
            boolean isClash = Modifier.isPrivate(method.getModifiers()) && publicNames.contains(method.getName());
            check.due(method + " bears a public one's name", isClash ? 1 : 0, 0);
        }
    }

    private static String told(Method method) {
        StringBuilder text = new StringBuilder(method.getReturnType() + " " + method.getName() + "(");
        String comma = "";
        for (Class<?> type : method.getParameterTypes()) {
            text.append(comma).append(type);
            comma = ",";
        }
        return text.append(")").toString();
    }
}
