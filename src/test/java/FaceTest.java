import java.lang.reflect.Constructor;
import java.lang.reflect.Field;
import java.lang.reflect.Method;
import java.lang.reflect.Modifier;
import java.util.Set;
import java.util.TreeSet;

/** The public face, and the rules of LANGUAGE.md that the compiled class shows (1, 5, 11). */
public final class FaceTest {
    private static final String[] FACE = {
        "boolean race(int,int)", "boolean pool(int,int,int,int)", "boolean pair(int,int,int,int)",
        "boolean substitute(int,int)", "int sell(int,int,int,int,int,int)", "boolean cancel(int)",
        "int scratch(int,int)", "boolean off(int)", "boolean place(int,int,int)", "int official(int)",
        "int odds(int,int,int,int,int)", "int dividend(int,int,int,int,int)", "long pay(int)",
        "long sum(int,int,int)", "long unclaimed()", "long carried()", "int close()",
        "int ticket(int,int)", "int units(int,int,int,int,int)", "int look(int,int)", "long count(int)",
    };

    public static void main(String[] args) {
        Class<?> house = ToteHouse.class;
        Check.due("public and final", house.getModifiers(), Modifier.PUBLIC | Modifier.FINAL);
        Set<String> names = faceOf(house);
        fieldsOf(house);
        Constructor<?>[] made = house.getDeclaredConstructors();
        Check.due("constructors", made.length, 1);
        Check.due("its parameters", made[0].getParameterCount(), 0);
        Check.due("it is public", Modifier.isPublic(made[0].getModifiers()), true);
        Class<?>[] inside = house.getDeclaredClasses();
        Check.due("at most twelve classes", inside.length < 12, true);
        for (Class<?> one : inside) {
            Check.due(one + " is static", Modifier.isStatic(one.getModifiers()), true);
            Check.due(one + " is not of the face", Modifier.isPublic(one.getModifiers()), false);
            rulesOf(one, names);
        }
        Check.end();
    }

    private static Set<String> faceOf(Class<?> house) {
        Set<String> want = new TreeSet<>(Set.of(FACE));
        Set<String> got = new TreeSet<>();
        Set<String> names = new TreeSet<>();
        for (Method m : house.getDeclaredMethods()) {
            if (!Modifier.isPrivate(m.getModifiers())) {
                got.add(told(m));
                names.add(m.getName());
            }
        }
        Check.due("face " + got, got.equals(want), true);
        rulesOf(house, names);
        return names;
    }

    private static String told(Method m) {
        StringBuilder text = new StringBuilder(m.getReturnType() + " " + m.getName() + "(");
        for (Class<?> type : m.getParameterTypes()) {
            text.append(text.charAt(text.length() - 1) == '(' ? "" : ",").append(type);
        }
        return text.append(")").toString();
    }

    private static void fieldsOf(Class<?> house) {
        for (Field f : house.getDeclaredFields()) {
            Check.due(f + " is of the face", !Modifier.isPrivate(f.getModifiers()), f.getName().equals("NONE"));
        }
    }

    private static void rulesOf(Class<?> one, Set<String> names) {
        int own = 0;
        for (Field f : one.getDeclaredFields()) {
            boolean isStatic = Modifier.isStatic(f.getModifiers());
            Check.due(f + " is no static state", isStatic && !Modifier.isFinal(f.getModifiers()), false);
            own += isStatic ? 0 : 1;
        }
        Check.due("fields of " + one, own <= 20, true);
        for (Method m : one.getDeclaredMethods()) {
            Check.due(m + " has at most seven parameters", m.getParameterCount() <= 7, true);
            Check.due(m + " bears a public name",
                    Modifier.isPrivate(m.getModifiers()) && names.contains(m.getName()), false);
        }
    }
}
