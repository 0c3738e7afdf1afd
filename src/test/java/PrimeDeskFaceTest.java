import java.lang.reflect.Constructor;
import java.lang.reflect.Executable;
import java.lang.reflect.Field;
import java.lang.reflect.Member;
import java.lang.reflect.Method;
import java.lang.reflect.Modifier;
import java.util.Arrays;
import java.util.HashSet;
import java.util.Set;
import java.util.TreeSet;

/** Compares the members of the class with the document's public face and with rules 1, 2, 5 and 10 of the language. */
public final class PrimeDeskFaceTest {
    private static final Set<String> FACE = Set.of(
        "public static final int BAD",
        "public static final int NONE",
        "public PrimeDesk()",
        "public boolean take(int)",
        "public boolean isPrime()",
        "public int factors()",
        "public int factor(int)",
        "public int divisors()",
        "public int sum()",
        "public int coprimes()",
        "public int nextPrime()",
        "public int power(int, int)",
        "public int order(int)",
        "public int root(int)",
        "public int generator()");

    private static final Set<Class<?>> TYPES = Set.of(
        int.class, long.class, short.class, byte.class, char.class, boolean.class, void.class,
        int[].class, long[].class, short[].class, byte[].class, char[].class, boolean[].class);

    private static int wrong = 0;

    public static void main(String[] args) {
        classItself();
        publicMembers();
        fields();
        methods();
        System.out.println(wrong == 0 ? "the face is as due" : wrong + " things of the face are not as due");
        if (wrong != 0) {
            System.exit(1);
        }
    }

    private static void holds(String what, boolean is) {
        if (!is) {
            wrong++;
            System.out.println("does not hold: " + what);
        }
    }

    private static void classItself() {
        int modifiers = PrimeDesk.class.getModifiers();
        holds("the class is public and final", Modifier.isPublic(modifiers) && Modifier.isFinal(modifiers));
        holds("the class extends nothing", PrimeDesk.class.getSuperclass() == Object.class);
        holds("the class implements nothing", PrimeDesk.class.getInterfaces().length == 0);
        holds("the class has no package", PrimeDesk.class.getPackageName().isEmpty());
        holds("the class nests nothing", PrimeDesk.class.getDeclaredClasses().length == 0);
    }

    private static void publicMembers() {
        Set<String> found = new TreeSet<>();
        for (Field field : PrimeDesk.class.getDeclaredFields()) {
            if (!isPrivate(field)) {
                found.add(start(field) + field.getType().getTypeName() + " " + field.getName());
            }
        }
        for (Constructor<?> constructor : PrimeDesk.class.getDeclaredConstructors()) {
            if (!isPrivate(constructor)) {
                found.add(start(constructor) + "PrimeDesk" + parameters(constructor));
            }
        }
        for (Method method : PrimeDesk.class.getDeclaredMethods()) {
            if (!isPrivate(method)) {
                found.add(start(method) + method.getReturnType().getTypeName() + " " + method.getName() + parameters(method));
            }
        }
        for (String member : FACE) {
            holds("there is " + member, found.contains(member));
        }
        for (String member : found) {
            holds("the document names " + member, FACE.contains(member));
        }
    }

    private static boolean isPrivate(Member member) {
        return Modifier.isPrivate(member.getModifiers());
    }

    private static String start(Member member) {
        String modifiers = Modifier.toString(member.getModifiers());
        return modifiers.isEmpty() ? "" : modifiers + " ";
    }

    private static String parameters(Executable executable) {
        StringBuilder text = new StringBuilder("(");
        for (Class<?> type : executable.getParameterTypes()) {
            text.append(text.length() > 1 ? ", " : "").append(type.getTypeName());
        }
        return text.append(")").toString();
    }

    private static void fields() {
        for (Field field : PrimeDesk.class.getDeclaredFields()) {
            holds(field + " has an allowed type", TYPES.contains(field.getType()));
            if (Modifier.isStatic(field.getModifiers())) {
                holds(field + " is a constant", Modifier.isFinal(field.getModifiers()));
                holds(field + " is int or long", field.getType() == int.class || field.getType() == long.class);
            }
        }
    }

    private static void methods() {
        Set<String> publicNames = new HashSet<>();
        for (Method method : PrimeDesk.class.getDeclaredMethods()) {
            if (!isPrivate(method)) {
                publicNames.add(method.getName());
            }
        }
        for (Method method : PrimeDesk.class.getDeclaredMethods()) {
            holds(method + " does not bear the name of a public method",
                !isPrivate(method) || !publicNames.contains(method.getName()));
            holds(method + " takes at most seven parameters", method.getParameterCount() <= 7);
            holds(method + " answers an allowed type, no array",
                TYPES.contains(method.getReturnType()) && !method.getReturnType().isArray());
            holds(method + " takes allowed types", TYPES.containsAll(Arrays.asList(method.getParameterTypes())));
            holds(method + " declares no exception", method.getExceptionTypes().length == 0);
        }
    }
}
