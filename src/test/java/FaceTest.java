import java.lang.reflect.Constructor;
import java.lang.reflect.Field;
import java.lang.reflect.Method;
import java.lang.reflect.Modifier;
import java.util.Arrays;
import java.util.HashSet;
import java.util.Set;
import java.util.TreeSet;

/** The public face: just the members of the document, with the exceptions that each declares. */
public final class FaceTest {
    private static final String[] FACE = {
        "int heat(int) IllegalArgumentException",
        "int pressure(int) IllegalArgumentException",
        "int clock(int,int,boolean,int) IllegalArgumentException IllegalStateException",
        "int regulate(int,int,int) IndexOutOfBoundsException IllegalArgumentException",
        "long set(int,int) IndexOutOfBoundsException IllegalArgumentException",
        "long days(int) IllegalArgumentException",
        "int rate(int) IndexOutOfBoundsException",
        "long off(int) IndexOutOfBoundsException",
        "long time() IllegalStateException",
        "boolean isTrusted(int) IndexOutOfBoundsException",
        "int phase(int,int,int,int) IllegalArgumentException",
        "int round(int,int,int,int) IllegalArgumentException",
        "int tongue(int,int,int) IllegalArgumentException",
        "int together(int,int,int) IllegalArgumentException",
        "int togetherAnew(int,int,int) IllegalArgumentException",
        "void datum(int,int) IndexOutOfBoundsException IllegalArgumentException",
        "int read(int,int,int) IndexOutOfBoundsException IllegalArgumentException IllegalStateException",
        "int close() IllegalStateException",
        "int forget()",
        "int tie(int,int) IndexOutOfBoundsException IllegalStateException",
        "long gravity(int) IndexOutOfBoundsException IllegalStateException",
        "int loop(int,int,int) IndexOutOfBoundsException IllegalStateException",
        "float turned(int,int) IllegalArgumentException",
        "int latitude(int) IllegalArgumentException",
        "int driven(int,int,int,int) IllegalArgumentException",
        "int returns(int,int,int) IllegalArgumentException",
        "int rounds(int,int) IllegalArgumentException",
        "int parting(int,int,int,int) IllegalArgumentException",
        "int chain(int,int,int) IllegalArgumentException",
        "void pull(int,int,int) IndexOutOfBoundsException IllegalArgumentException",
        "void drive(int,int) IllegalArgumentException",
        "int step(int) IllegalArgumentException",
        "int back(int) IllegalArgumentException IllegalStateException",
        "int bob(int,boolean) IndexOutOfBoundsException",
        "long energy()",
        "float share()",
        "int count(int) IllegalArgumentException",
    };

    public static void main(String[] args) {
        Class<?> hall = PendulumHall.class;
        Check.due("public and final", hall.getModifiers(), Modifier.PUBLIC | Modifier.FINAL);
        constants();
        constructors(hall);
        methods(hall);
        insides(hall);
        Check.end();
    }

    private static void constants() {
        Check.due("NONE", PendulumHall.NONE, -1);
        Check.due("STEEL", PendulumHall.STEEL, 0);
        Check.due("BRASS", PendulumHall.BRASS, 1);
        Check.due("WOOD", PendulumHall.WOOD, 2);
        Check.due("INVAR", PendulumHall.INVAR, 3);
        Set<String> names = new TreeSet<>();
        for (Field field : PendulumHall.class.getDeclaredFields()) {
            if (!Modifier.isPrivate(field.getModifiers())) {
                names.add(field.getName());
            }
            Check.due(field.getName() + " is no changing static",
                    !Modifier.isStatic(field.getModifiers()) || Modifier.isFinal(field.getModifiers()), true);
        }
        Check.due("the constants alone: " + names,
                names.equals(new TreeSet<>(Arrays.asList("NONE", "STEEL", "BRASS", "WOOD", "INVAR"))), true);
    }

    private static void constructors(Class<?> hall) {
        Constructor<?>[] all = hall.getDeclaredConstructors();
        Check.due("constructors", all.length, 1);
        Check.due("the constructor is public", Modifier.isPublic(all[0].getModifiers()), true);
        Check.due("it takes nothing", all[0].getParameterCount(), 0);
    }

    private static void methods(Class<?> hall) {
        Set<String> want = new TreeSet<>(Arrays.asList(FACE));
        Set<String> got = new TreeSet<>();
        Set<String> names = new HashSet<>();
        for (Method method : hall.getDeclaredMethods()) {
            if (!Modifier.isPrivate(method.getModifiers())) {
                Check.due(method.getName() + " is public", method.getModifiers(), Modifier.PUBLIC);
                got.add(shape(method));
                names.add(method.getName());
            }
        }
        for (String shape : want) {
            Check.due("there is " + shape, got.contains(shape), true);
        }
        for (String shape : got) {
            Check.due("due is " + shape, want.contains(shape), true);
        }
        for (Method method : hall.getDeclaredMethods()) {
            Check.due(method.getName() + " has a name of its own",
                    Modifier.isPrivate(method.getModifiers()) && names.contains(method.getName()), false);
        }
    }

    private static String shape(Method method) {
        StringBuilder shape = new StringBuilder();
        shape.append(method.getReturnType().getSimpleName()).append(' ').append(method.getName()).append('(');
        String comma = "";
        for (Class<?> type : method.getParameterTypes()) {
            shape.append(comma).append(type.getSimpleName());
            comma = ",";
        }
        shape.append(')');
        for (Class<?> exception : method.getExceptionTypes()) {
            shape.append(' ').append(exception.getSimpleName());
        }
        return shape.toString();
    }

    private static void insides(Class<?> hall) {
        for (Class<?> inside : hall.getDeclaredClasses()) {
            Check.due(inside.getName() + " is static", Modifier.isStatic(inside.getModifiers()), true);
            Check.due(inside.getName() + " is not open",
                    Modifier.isPublic(inside.getModifiers()) || Modifier.isProtected(inside.getModifiers()), false);
            for (Field field : inside.getDeclaredFields()) {
                Check.due(inside.getName() + "." + field.getName() + " is no changing static",
                        Modifier.isStatic(field.getModifiers()) && !Modifier.isFinal(field.getModifiers()), false);
            }
        }
    }
}
