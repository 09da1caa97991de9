import java.lang.reflect.Constructor;
import java.lang.reflect.Field;
import java.lang.reflect.Member;
import java.lang.reflect.Method;
import java.lang.reflect.Modifier;
import java.util.Set;
import java.util.TreeSet;

/** The class shows what the document's face shows, and nothing else. */
public final class FaceTest {
    private static final Set<String> FACE = new TreeSet<>(Set.of(
        "int put(int,int,int,int,int)", "int lift(int)", "int look(int,int)", "int read(int,int)", "int full(int,int)",
        "int melt(int,int)", "int other(int,int)", "int hand(int,int,int)", "int close()", "int today()",
        "boolean set(int,int)", "int raw(int,int)", "int known(int,int,int)", "int why(int,int)", "int state(int,int)",
        "int number(int,int)", "int from(int,int,int)", "int part(int,int,int)", "int squares(int,int)",
        "int valley(int,int,int,boolean)", "int rain(int,int)", "int mean(int,int)", "long flow(int,int)",
        "int ahead(int,long)", "int week(int,int,int)", "int cleft(int)", "long misses(int,int)"));

    public static void main(String[] args) {
        Check check = new Check();
        Set<String> shown = new TreeSet<>();
        Set<String> hidden = new TreeSet<>();
        for (Method m : RainOffice.class.getDeclaredMethods()) {
            if (isShown(m)) shown.add(signature(m));
            else hidden.add(m.getName());
        }
        check.due("the methods " + shown, shown.equals(FACE), true);
        for (String one : FACE) check.due("hidden " + one, hidden.contains(one.replaceAll("\\w+ (\\w+).*", "$1")), false);
        Set<String> constants = new TreeSet<>();
        for (Field f : RainOffice.class.getDeclaredFields()) if (isShown(f)) constants.add(f.getName());
        check.due("the constants " + constants, constants.equals(Set.of("NONE", "WRONG")), true);
        Constructor<?>[] made = RainOffice.class.getDeclaredConstructors();
        check.due("constructors", made.length, 1);
        check.due("the constructor is public, without arguments",
            Modifier.isPublic(made[0].getModifiers()) && made[0].getParameterCount() == 0, true);
        check.due("the class is public and final", RainOffice.class.getModifiers(), Modifier.PUBLIC | Modifier.FINAL);
        check.end("FaceTest");
    }

    private static boolean isShown(Member m) { return !Modifier.isPrivate(m.getModifiers()) && !m.isSynthetic(); }

    private static String signature(Method m) {
        StringBuilder types = new StringBuilder();
        for (Class<?> type : m.getParameterTypes()) types.append(types.length() == 0 ? "" : ",").append(type.getName());
        return m.getReturnType().getName() + " " + m.getName() + "(" + types + ")";
    }
}
