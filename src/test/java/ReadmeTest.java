import java.io.IOException;
import java.lang.reflect.InvocationTargetException;
import java.lang.reflect.Method;
import java.lang.reflect.Modifier;
import java.nio.file.Files;
import java.nio.file.Path;
import java.util.regex.Matcher;
import java.util.regex.Pattern;

/** README.md's examples answer what stands beside them, and it tells of each call; run in the project's folder. */
public final class ReadmeTest {
    private static final Pattern CALL = Pattern.compile("x\\.(\\w+)\\(([^)]*)\\);\\s+// (-?\\d+): .*");

    public static void main(String[] args) throws IOException, ReflectiveOperationException {
        String page = Files.readString(Path.of("README.md"));
        SpaceWarden x = null;
        int examples = 0;
        for (String line : page.split("\n")) {
            Matcher call = CALL.matcher(line);
            if (line.equals("SpaceWarden x = new SpaceWarden();")) {
                x = new SpaceWarden();
                examples++;
            } else if (line.startsWith("x.")) {
                Check.yes("is a call with its answer: " + line, call.matches());
                Check.due(line, answer(x, call.group(1), call.group(2)), Long.parseLong(call.group(3)));
            }
        }
        Check.due("examples", examples, 2);
        for (Method method : SpaceWarden.class.getDeclaredMethods()) {
            if (Modifier.isPublic(method.getModifiers())) {
                Check.yes("README.md tells of " + method.getName(),
                    Pattern.compile("`" + method.getName() + "[(`]").matcher(page).find());
            }
        }
        Check.finish();
    }

    private static long answer(SpaceWarden x, String name, String operands) throws ReflectiveOperationException {
        String[] words = operands.isEmpty() ? new String[0] : operands.split(", ");
        Class<?>[] types = new Class<?>[words.length];
        Object[] with = new Object[words.length];
        for (int i = 0; i < words.length; i++) {
            types[i] = int.class;
            with[i] = Integer.decode(words[i]);
        }
        try {
            return (Integer) SpaceWarden.class.getMethod(name, types).invoke(x, with);
        } catch (InvocationTargetException e) {
            Check.yes(name + "(" + operands + ") throws " + e.getCause(), false);
            return 0;
        }
    }
}
