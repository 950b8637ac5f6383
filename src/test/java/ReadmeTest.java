import java.io.IOException;
import java.lang.reflect.InvocationTargetException;
import java.lang.reflect.Method;
import java.lang.reflect.Modifier;
import java.nio.file.Files;
import java.nio.file.Path;
import java.util.regex.Matcher;
import java.util.regex.Pattern;

/** What README.md says of the class: each call of its example answers so, and no call is left out. */
final class ReadmeTest {
    private static final Pattern CALL =
        Pattern.compile("^yard\\.(\\w+)\\(([^)]*)\\); +// (-?\\d+|true|false)$", Pattern.MULTILINE);
    private static final Pattern MAKING = Pattern.compile("new SnowTracks\\(([^)]*)\\);");

    private ReadmeTest() {
    }

    public static void main(String[] args) throws IOException, ReflectiveOperationException {
        String readme = Files.readString(Path.of("README.md"));
        example(readme.substring(readme.indexOf("```java"), readme.indexOf("\n```\n")));
        everyCallIsNamed(readme);
        Due.end("ReadmeTest");
    }

    private static void example(String block) throws ReflectiveOperationException {
        Matcher making = MAKING.matcher(block);
        Due.is("the example makes an object", making.find(), true);
        Integer[] size = numbers(making.group(1));
        SnowTracks yard = new SnowTracks(size[0], size[1], size[2]);
        Matcher call = CALL.matcher(block);
        int calls = 0;
        while (call.find()) {
            calls++;
            Object got = ask(yard, call.group(1), numbers(call.group(2)));
            Due.is(call.group() + " answers " + got, got.toString().equals(call.group(3)), true);
        }
        Due.is("calls of the example", calls, block.split("\nyard\\.").length - 1);
    }

    private static Object ask(SnowTracks yard, String name, Integer[] with) throws ReflectiveOperationException {
        for (Method method : SnowTracks.class.getMethods()) {
            if (method.getName().equals(name) && method.getParameterCount() == with.length) {
                try {
                    return method.invoke(yard, (Object[]) with);
                } catch (InvocationTargetException e) {
                    return e.getCause();
                }
            }
        }
        return "no such call";
    }

    private static Integer[] numbers(String list) {
        if (list.isBlank()) {
            return new Integer[0];
        }
        String[] parts = list.split(", ");
        Integer[] numbers = new Integer[parts.length];
        for (int i = 0; i < parts.length; i++) {
            boolean bits = parts[i].startsWith("0b");
            numbers[i] = bits ? Integer.valueOf(parts[i].substring(2), 2) : Integer.decode(parts[i]);
        }
        return numbers;
    }

    private static void everyCallIsNamed(String readme) {
        for (Method method : SnowTracks.class.getDeclaredMethods()) {
            if (Modifier.isPublic(method.getModifiers())) {
                String row = "\\|[^|]*`" + method.getName() + "`[^|]*\\|";
                Due.is("README.md names " + method.getName(), Pattern.compile(row).matcher(readme).find(), true);
            }
        }
    }
}
