import java.io.IOException;
import java.lang.reflect.Method;
import java.lang.reflect.Modifier;
import java.nio.file.Files;
import java.nio.file.Path;
import java.util.regex.Matcher;
import java.util.regex.Pattern;

/** The README's example answers as it says there, and its table names every call of the face. */
public final class ReadmeTest {
    private static final Pattern CALL = Pattern.compile("^desk\\.(\\w+)\\(([^)]*)\\);\\s*// (NONE|-?\\d+)\\b.*$", Pattern.MULTILINE);

    private ReadmeTest() {
    }

    public static void main(String[] args) throws ReflectiveOperationException, IOException {
        String readme = Files.readString(Path.of("README.md"));
        MooringDesk desk = new MooringDesk();
        Matcher calls = CALL.matcher(readme);
        int found = 0;
        while (calls.find()) {
            long want = calls.group(3).equals("NONE") ? MooringDesk.NONE : Long.parseLong(calls.group(3));
            Check.due("README: " + calls.group(), answer(desk, calls.group(1), calls.group(2)), want);
            found++;
        }
        Check.due("every line of the example was called", found, readme.split("\ndesk\\.").length - 1);
        for (Method method : MooringDesk.class.getDeclaredMethods()) {
            if (Modifier.isPublic(method.getModifiers())) {
                Check.due("README names " + method.getName(), readme.contains("`" + method.getName() + "`"), true);
            }
        }
        Check.finish("ReadmeTest");
    }

    /** The example's arguments are whole numbers alone. */
    private static long answer(MooringDesk desk, String name, String told) throws ReflectiveOperationException {
        String[] parts = told.isEmpty() ? new String[0] : told.split(", ");
        Class<?>[] types = new Class<?>[parts.length];
        Object[] numbers = new Object[parts.length];
        for (int i = 0; i < parts.length; i++) {
            types[i] = int.class;
            numbers[i] = Integer.decode(parts[i]);
        }
        return ((Number) MooringDesk.class.getMethod(name, types).invoke(desk, numbers)).longValue();
    }
}
