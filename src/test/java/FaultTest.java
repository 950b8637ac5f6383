import java.util.Random;
import java.util.regex.Matcher;
import java.util.regex.Pattern;

/** Promise 4 on many texts (always the same ones) against the grammar as a regular expression. */
final class FaultTest {
    private static final Random CHANCE = new Random(36);
    private static final Pattern WALK = Pattern.compile(walkPattern());
    private static final Pattern NUMBERS = Pattern.compile(" *@ *([0-9]{1,2}+)( *, *([0-9]{1,2}+))?");

    private FaultTest() {
    }

    /** At most three brackets within one another: so the moves are written out three times. */
    private static String walkPattern() {
        String move = "[neswzb]";
        for (int i = 0; i < 3; i++) {
            move = "(?:[neswzb]|\\( *(?:(?:[2-9] *)?" + move + " *)+\\))";
        }
        return " *@ *[0-9]{1,2}(?![0-9]) *, *[0-9]{1,2}(?![0-9]) *(?:(?:[2-9] *)?" + move + " *)+";
    }

    /** The first byte at which nothing that matches can go on. */
    private static int faultOf(String text, int wide, int deep) {
        int fault = SnowTracks.NONE;
        if (!WALK.matcher(text).matches()) {
            fault = text.length();
            for (int end = text.length(); end > 0; end--) {
                Matcher start = WALK.matcher(text.substring(0, end));
                if (!start.matches() && !start.hitEnd()) {
                    fault = end - 1;
                }
            }
        }
        Matcher numbers = NUMBERS.matcher(text);
        if (numbers.lookingAt()) {
            if (numbers.group(3) != null && Integer.parseInt(numbers.group(3)) >= deep) {
                fault = earlier(fault, numbers.end(3) - 1);
            }
            if (Integer.parseInt(numbers.group(1)) >= wide) {
                fault = earlier(fault, numbers.end(1) - 1);
            }
        }
        return fault;
    }

    private static int earlier(int fault, int other) {
        return fault == SnowTracks.NONE ? other : Math.min(fault, other);
    }

    private static String any(String signs, int most) {
        StringBuilder text = new StringBuilder();
        int many = CHANCE.nextInt(most + 1);
        for (int i = 0; i < many; i++) {
            text.append(signs.charAt(CHANCE.nextInt(signs.length())));
        }
        return text.toString();
    }

    private static String changed(String text) {
        StringBuilder other = new StringBuilder(text);
        int at = CHANCE.nextInt(text.length());
        if (CHANCE.nextBoolean()) {
            other.deleteCharAt(at);
        } else {
            other.insert(at, "@,0123456789neswzb()  x".charAt(CHANCE.nextInt(23)));
        }
        return other.toString();
    }

    public static void main(String[] args) {
        String[] walks = {"@0,0 3e", "@ 1 , 2 2(n e)", "  @03,02 (2(3(nw)b)z)5s ", "@2,11 n(e)(s(w))",
            "@15,15 ((( z )2b)) 9n", "@9,9 2(2 ( 2 (n) ) ) e"};
        int right = 0;
        for (int i = 0; i < 60000; i++) {
            int wide = 2 + CHANCE.nextInt(15);
            int deep = 2 + CHANCE.nextInt(15);
            String text = walks[CHANCE.nextInt(walks.length)];
            switch (i % 4) {
                case 0:
                    text = any("@,019n( ", 9);
                    break;
                case 1:
                    text = "@" + any(" 01", 3) + "," + any(" 01", 3) + any("2n( )", 6);
                    break;
                case 2:
                    text = "@0,0 " + any("29nb((())) ", 14);
                    break;
                default:
                    for (int many = CHANCE.nextInt(3); many > 0; many--) {
                        text = changed(text);
                    }
            }
            int due = faultOf(text, wide, deep);
            right += due == SnowTracks.NONE ? 1 : 0;
            SnowTracks yard = new SnowTracks(wide, deep, 10);
            Due.is("fault of '" + text + "' in " + wide + " " + deep, Due.fault(yard, text), due);
        }
        Due.is("there are WALKS enough among them", right > 4000 && right < 56000, true);
        Due.end("FaultTest");
    }
}
