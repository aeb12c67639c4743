import java.lang.reflect.Constructor;
import java.lang.reflect.Field;
import java.lang.reflect.Member;
import java.lang.reflect.Method;
import java.lang.reflect.Modifier;
import java.util.Arrays;
import java.util.TreeSet;

/** The public face is the document's, and no more. */
public final class FaceTest {
    private static final String[] METHODS = {
        "int feed(int,int,int,int,int)", "int spaces(int)", "int fault()", "int count(int)", "int process(int,int)",
        "int space(int,int,int)", "int number(int,int)", "int listed(int,int)", "int inside(int,int)",
        "int outside(int,int)", "int range(int,int,int)", "int mounted(int,int)", "int may(int,int,int)",
        "int over(int,int)", "int fork(int)", "int create(int,int)", "int map(int,int,int,int,int)",
        "int become(int,int)", "int mount(int,int,int)", "int share(int)", "int enter(int,int,int)", "int end(int)",
        "int kill(int,int)", "int undo()", "int set(int,int)", "int shared(int,int)", "int steps(int,int)",
        "int note(int,int,boolean)", "int fits()", "int look(int)", "void forget()", "int years(int,int,int)",
        "void image()", "boolean restore()"};

    public static void main(String[] args) {
        TreeSet<String> found = new TreeSet<>();
        for (Method method : SpaceWarden.class.getDeclaredMethods()) {
            if (!isHidden(method)) {
                String text = Arrays.toString(method.getParameterTypes()).replace(" ", "");
                found.add(method.getReturnType() + " " + method.getName() + "(" + text.substring(1, text.length() - 1)
                    + ")");
            }
        }
        Check.yes("methods " + found, found.equals(new TreeSet<>(Arrays.asList(METHODS))));
        TreeSet<String> constants = new TreeSet<>();
        for (Field field : SpaceWarden.class.getDeclaredFields()) {
            if (!isHidden(field)) {
                constants.add(Modifier.toString(field.getModifiers()) + " " + field.getType() + " " + field.getName());
            }
        }
        Check.yes("constants " + constants, constants.equals(new TreeSet<>(Arrays.asList(
            "public static final int NONE", "public static final int NOBODY"))));
        Check.due("NONE", SpaceWarden.NONE, -1);
        Check.due("NOBODY", SpaceWarden.NOBODY, 65534);
        Constructor<?>[] constructors = SpaceWarden.class.getConstructors();
        Check.due("constructors", SpaceWarden.class.getDeclaredConstructors().length, 1);
        Check.yes("public, without parameters", constructors.length == 1 && constructors[0].getParameterCount() == 0);
        Check.yes("final", Modifier.isFinal(SpaceWarden.class.getModifiers()));
        Check.due("public classes inside", SpaceWarden.class.getClasses().length, 0);
        keepsToRules(SpaceWarden.class);
        for (Class<?> inside : SpaceWarden.class.getDeclaredClasses()) {
            Check.yes(inside + " is static", Modifier.isStatic(inside.getModifiers()));
            Check.no(inside + " is protected", Modifier.isProtected(inside.getModifiers()));
            keepsToRules(inside);
        }
        Check.finish();
    }

    /** LANGUAGE.md's rules 1, 5 and 11, as far as a class's members show them. */
    private static void keepsToRules(Class<?> of) {
        for (Method method : of.getDeclaredMethods()) {
            String name = of.getName() + "." + method.getName();
            Check.yes(name + " has at most seven parameters", method.getParameterCount() <= 7);
            for (String face : METHODS) {
                Check.no(name + " is private and bears a public one's name", isHidden(method)
                    && face.substring(face.indexOf(' ') + 1, face.indexOf('(')).equals(method.getName()));
            }
        }
        int fields = 0;
        for (Field field : of.getDeclaredFields()) {
            if (Modifier.isStatic(field.getModifiers())) {
                Check.yes(of.getName() + "." + field.getName() + " is final", Modifier.isFinal(field.getModifiers()));
            } else {
                fields++;
            }
        }
        Check.yes(of.getName() + " has some twenty fields at most", fields <= 20);
    }

    private static boolean isHidden(Member member) {
        return Modifier.isPrivate(member.getModifiers()) || member.isSynthetic();
    }
}
