import java.lang.reflect.Constructor;
import java.lang.reflect.Field;
import java.lang.reflect.Member;
import java.lang.reflect.Method;
import java.lang.reflect.Modifier;
import java.util.Arrays;
import java.util.List;
import java.util.Map;
import java.util.TreeSet;
import java.util.stream.Collectors;

/** The face: the class, its constant, its constructor, its calls with what they take and throw, and nothing else. */
public final class FaceTest {
    private static final Map<Class<?>, String> THROWN = Map.of(java.util.NoSuchElementException.class, "none",
            IllegalArgumentException.class, "argument", IllegalStateException.class, "state",
            IndexOutOfBoundsException.class, "index");

    private static final List<String> CALLS = List.of(
        "int go(int) argument state",
        "int place(int int int) argument",
        "int mark()",
        "int hand(int) none",
        "int officer(int int) argument",
        "int deed(int int int) none argument",
        "int tell(int int int) none argument",
        "int state(int int boolean) none",
        "boolean doubt(int boolean) none",
        "void solve(int int int) none",
        "boolean bar(int int) none argument",
        "int are(int int) none argument",
        "int link(int int int) none argument",
        "int right(int boolean) none",
        "void forget(int) none",
        "void window(int int) argument",
        "int count(int boolean int boolean) none argument",
        "int span(int boolean int boolean boolean) none argument",
        "int weight(int int boolean) none argument",
        "int parent(int boolean) none",
        "int worth(int int boolean) none argument",
        "int by(int int int boolean) none argument",
        "int best(long boolean) argument state",
        "int part(long boolean int) argument state",
        "int near(long boolean int) argument state",
        "int sure(long boolean int int int) argument state",
        "int joined(int boolean) none state",
        "int bound(boolean)",
        "int moves(int int) argument",
        "int changes(int int int boolean) none argument",
        "int share(int int int) none argument",
        "int likely(int int int) none argument",
        "int keep(int int int) none argument",
        "boolean came(int int) none state",
        "int record(boolean)",
        "boolean stopped(int boolean) none state",
        "int guess(long) argument",
        "int homes(int boolean) argument",
        "int look(long boolean int int) argument state",
        "int others(int int boolean boolean) none",
        "int lots(int int int int boolean) none argument state",
        "int feed(int int int int int)",
        "int text(int) argument",
        "int fault(int)",
        "boolean may(int int) none",
        "int ask(int int int)",
        "int kept(int) none",
        "void tray(int int int) none argument",
        "long write(int int long) none state index",
        "int take(int int) none state argument",
        "int check(long boolean int) none argument",
        "int number(int)");

    private static int wrong = 0;

    private static void due(String what, Object is, Object want) {
        if (!is.equals(want)) {
            wrong++;
            System.out.println(what + " is " + is + ", due is " + want);
        }
    }

    private static boolean isOpen(Member member) {
        return !Modifier.isPrivate(member.getModifiers()) && !member.isSynthetic();
    }

    private static String line(Method method) {
        String takes = Arrays.stream(method.getParameterTypes()).map(Class::getName).collect(Collectors.joining(" "));
        String throwing = Arrays.stream(method.getExceptionTypes()).map(e -> " " + THROWN.get(e))
                .collect(Collectors.joining());
        return method.getReturnType().getName() + " " + method.getName() + "(" + takes + ")" + throwing;
    }

    public static void main(String[] args) throws IllegalAccessException {
        TreeSet<String> calls = new TreeSet<>();
        for (Method method : OneHand.class.getDeclaredMethods()) {
            if (isOpen(method)) {
                calls.add(line(method));
                due(method.getName() + "'s modifiers", method.getModifiers(), Modifier.PUBLIC);
            }
        }
        due("what is called", calls, new TreeSet<>(CALLS));
        due("the class", OneHand.class.getModifiers(), Modifier.PUBLIC | Modifier.FINAL);
        due("what it extends", OneHand.class.getSuperclass(), Object.class);
        due("what it implements", OneHand.class.getInterfaces().length, 0);
        for (Field field : OneHand.class.getDeclaredFields()) {
            if (isOpen(field)) {
                due("a field", Modifier.toString(field.getModifiers()) + " " + field.getType() + " " + field.getName(),
                        "public static final int NONE");
            }
        }
        due("NONE", OneHand.NONE, -1);
        Constructor<?>[] made = OneHand.class.getDeclaredConstructors();
        due("how many ways it is made", made.length, 1);
        due("how it is made", made[0].toString(), "public OneHand()");
        if (wrong > 0) {
            System.exit(1);
        }
    }
}
