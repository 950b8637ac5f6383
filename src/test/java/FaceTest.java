import java.io.IOException;
import java.lang.reflect.Modifier;
import java.nio.file.Files;
import java.nio.file.Path;
import java.util.Set;
import java.util.TreeSet;
import java.util.regex.Matcher;
import java.util.regex.Pattern;

/** The public face of the document, and what can be seen of LANGUAGE.md's rules in the source. */
final class FaceTest {
    private static final String METHODS = "int feed(5) boolean end(1) int fault(0) int walk(2) int told(2)"
        + " int where(2) int latest(3) int prints(2) int fact(6) int undo(0) int words(1) int can(1)"
        + " int bars(1) int core(1) int liars(1) int begins(3) int gap(4) int crossings(3) int sure(5)"
        + " int ahead(3) int span(1) int look(2) int meets(3) int one(3) int walkers(1)"
        + " boolean start(2) int judge(1) int top(2) boolean settle(1) int snow(1) int shown(3)"
        + " int trail(2) int orders(2) int photo(4) int count(1)";

    private FaceTest() {
    }

    public static void main(String[] args) throws IOException {
        constants();
        methods();
        members();
        source(Files.readString(Path.of(args.length > 0 ? args[0] : "src/main/java/SnowTracks.java")));
        Due.end("FaceTest");
    }

    private static void constants() {
        Due.is("NONE", SnowTracks.NONE, -1);
        Due.is("HIDDEN", SnowTracks.HIDDEN, -100000);
        Due.is("the class is public and final",
            (SnowTracks.class.getModifiers() & (Modifier.PUBLIC | Modifier.FINAL)) == 17, true);
        Due.is("one constructor", SnowTracks.class.getDeclaredConstructors().length, 1);
        Due.is("a public one", SnowTracks.class.getConstructors().length, 1);
    }

    private static void methods() {
        Set<String> due = new TreeSet<>();
        Matcher words = Pattern.compile("(int|boolean) [a-z]+\\([0-9]\\)").matcher(METHODS);
        while (words.find()) {
            due.add(words.group());
        }
        Set<String> names = new TreeSet<>();
        for (var method : SnowTracks.class.getDeclaredMethods()) {
            if (!Modifier.isPrivate(method.getModifiers())) {
                String name = method.getReturnType() + " " + method.getName() + "("
                    + method.getParameterCount() + ")";
                Due.is("the face has " + name, due.remove(name), true);
                names.add(method.getName());
                boolean told = method.getName().equals("told");
                Due.is("throws of " + name, method.getExceptionTypes().length, told ? 1 : 0);
            }
        }
        Due.is("the face lacks " + due, due.size(), 0);
        for (var method : SnowTracks.class.getDeclaredMethods()) {
            if (Modifier.isPrivate(method.getModifiers())) {
                boolean borrowed = names.contains(method.getName());
                Due.is("a private method is called " + method.getName(), borrowed, false);
            }
        }
    }

    private static void members() {
        Class<?>[] inside = SnowTracks.class.getDeclaredClasses();
        Due.is("some twelve classes", inside.length < 12, true);
        for (Class<?> one : inside) {
            boolean hidden = Modifier.isPrivate(one.getModifiers()) && Modifier.isStatic(one.getModifiers());
            Due.is(one + " is private and static", hidden, true);
            fields(one);
        }
        for (var field : SnowTracks.class.getDeclaredFields()) {
            boolean constant = field.getName().equals("NONE") || field.getName().equals("HIDDEN");
            Due.is(field + " is private", Modifier.isPrivate(field.getModifiers()), !constant);
        }
        fields(SnowTracks.class);
    }

    private static void fields(Class<?> one) {
        int fields = 0;
        for (var field : one.getDeclaredFields()) {
            boolean fixed = Modifier.isFinal(field.getModifiers());
            if (Modifier.isStatic(field.getModifiers())) {
                Due.is(field + " is final", fixed, true);
            } else {
                fields++;
            }
        }
        Due.is("some twenty fields in " + one, fields <= 20, true);
        for (var method : one.getDeclaredMethods()) {
            Due.is("parameters of " + method, method.getParameterCount() <= 7, true);
        }
    }

    private static void source(String text) {
        String code = text.replaceAll("(?s)/\\*.*?\\*/", "").replaceAll("//.*", "");
        String[] never = {"->", "::", "\\bfinally\\b", "\\bcatch\\b", "\\bsynchronized\\b", "\\bassert\\b",
            "\\bpackage\\b", "\\bstatic \\{", "\\bprotected\\b", "Exact\\(", "\\bRandom\\b", "\\bSystem\\.[^a]",
            "\\bThread\\b", "\\bObject\\b", "\\bvar\\b", "\\.equals\\(", "\\bgetMessage\\b"};
        for (String one : never) {
            Due.is("the source has " + one, Pattern.compile(one).matcher(code).find(), false);
        }
        Matcher imports = Pattern.compile("import ([^;]+);").matcher(code);
        while (imports.find()) {
            boolean listed = Set.of("java.util.Arrays", "java.util.NoSuchElementException")
                .contains(imports.group(1));
            Due.is("import " + imports.group(1), listed, true);
        }
        Due.is("signs of the source", text.chars().allMatch(sign -> sign < 127), true);
        lengths(code);
    }

    /** Methods stay short: from a line that opens one to the closing line of the same depth. */
    private static void lengths(String code) {
        String[] lines = code.split("\n");
        for (int i = 0; i < lines.length; i++) {
            boolean opens = lines[i].matches(" +(public|private|static|int|void|boolean).*\\).*\\{");
            if (opens && !lines[i].contains(" class ")) {
                String close = lines[i].replaceAll("\\S.*", "") + "}";
                int end = i;
                while (!lines[end].equals(close)) {
                    end++;
                }
                Due.is("length of" + lines[i], end - i <= 60, true);
            }
        }
    }
}
