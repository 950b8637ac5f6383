import java.lang.reflect.InvocationTargetException;
import java.lang.reflect.Method;
import java.util.ArrayList;
import java.util.Comparator;
import java.util.List;
import java.util.NoSuchElementException;
import java.util.Random;

/**
 * All promises: whatever is asked, in whatever state, nothing but told throws, and that only
 * NoSuchElementException; the same calls give the same answers; a refused call changes nothing.
 */
final class AnyCallsTest {
    private static final int[] NUMBERS = {Integer.MIN_VALUE, -100000, -5001, -5000, -8, -2, -1, 0, 1, 2,
        3, 4, 5, 6, 7, 8, 9, 10, 12, 15, 16, 20, 59, 60, 61, 100, 160, 161, 255, 256, 1999, 2000, 2001,
        5000, 5001, 65535, 1 << 19, (1 << 20) - 1, 1 << 20, 1 << 31, Integer.MAX_VALUE};
    private static final String[] TEXTS = {"@0,0 3e", "@1,1 9(9(9(nesw)))", "@0,1 ebebsb", "@1,0 6(3(ew)b)",
        "@0,0 9z", "@9,9 n", "@0,0 2(", "@1,1 4(2(2n2s2(ew))3b)"};
    private static final List<Method> FACE = face();

    private AnyCallsTest() {
    }

    public static void main(String[] args) throws IllegalAccessException {
        for (int seed = 0; seed < 400; seed++) {
            List<Long> once = run(seed);
            List<Long> again = run(seed);
            Due.is("the same calls, the same answers, " + seed, once.equals(again), true);
        }
        Due.end("AnyCallsTest");
    }

    private static List<Method> face() {
        List<Method> face = new ArrayList<>(List.of(SnowTracks.class.getDeclaredMethods()));
        face.removeIf(method -> !java.lang.reflect.Modifier.isPublic(method.getModifiers()));
        face.sort(Comparator.comparing(Method::getName));
        return face;
    }

    private static int number(Random chance, SnowTracks yard) {
        switch (chance.nextInt(4)) {
            case 0:
                return NUMBERS[chance.nextInt(NUMBERS.length)];
            case 1:
                return (1 << yard.count(1)) - 1 & chance.nextInt();
            default:
                return chance.nextInt(5) - 1;
        }
    }

    private static List<Long> run(int seed) throws IllegalAccessException {
        Random chance = new Random(seed);
        SnowTracks yard = new SnowTracks(chance.nextInt(20), chance.nextInt(20), chance.nextInt(2100));
        List<Long> answers = new ArrayList<>();
        for (int i = 0; i < 470; i++) {
            if (chance.nextInt(20) == 0) {
                String text = TEXTS[chance.nextInt(TEXTS.length)];
                answers.add((long) Due.walk(yard, text, 1 + chance.nextInt(9), chance.nextInt(3)));
            }
            Method method = FACE.get(chance.nextInt(FACE.size()));
            Object[] given = new Object[method.getParameterCount()];
            for (int j = 0; j < given.length; j++) {
                given[j] = number(chance, yard);
            }
            answers.add(answer(yard, method, given));
        }
        bounded(yard);
        return answers;
    }

    private static long answer(SnowTracks yard, Method method, Object[] given)
            throws IllegalAccessException {
        String call = method.getName() + java.util.Arrays.toString(given);
        String before = counts(yard);
        try {
            Object answer = method.invoke(yard, given);
            boolean refused = answer.equals(SnowTracks.NONE) || answer.equals(SnowTracks.HIDDEN)
                || answer.equals(false);
            if (refused) {
                Due.is(call + " changed nothing", counts(yard).equals(before), true);
            }
            return answer instanceof Boolean ? (boolean) answer ? 1 : 0 : (int) answer;
        } catch (InvocationTargetException e) {
            boolean due = method.getName().equals("told")
                && e.getCause().getClass() == NoSuchElementException.class;
            Due.is(call + " throws " + e.getCause(), due, true);
            return HIDDEN_THROW;
        }
    }

    private static final long HIDDEN_THROW = Long.MIN_VALUE;

    private static String counts(SnowTracks yard) {
        StringBuilder all = new StringBuilder();
        for (int what = 0; what <= 6; what++) {
            all.append(yard.count(what)).append(' ');
        }
        for (int i = 0; i < yard.count(0); i++) {
            all.append(yard.told(i, 4)).append(' ');
        }
        return all.toString();
    }

    private static void bounded(SnowTracks yard) {
        Due.is("WALKS are eight at most", yard.count(0) <= 8, true);
        Due.is("FACTS are 20 at most", yard.count(1) <= 20, true);
        Due.is("bytes are 160 at most", yard.count(2) <= 160, true);
        Due.is("SNOWS are eight at most", yard.count(6) <= 8, true);
    }
}
