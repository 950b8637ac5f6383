/** Compares answers with those that are due, and keeps how many were not. */
final class Due {
    private static int wrong = 0;
    private static int asked = 0;
    /** The document's sentence that is being tested, and how many answers were asked before it. */
    private static String sentence = "";
    private static int askedBefore = 0;

    private Due() {
    }

    static void is(String call, long got, long want) {
        asked++;
        if (got != want) {
            wrong++;
            if (wrong <= 40) {
                String told = sentence.isEmpty() ? "" : " (\"" + sentence + "\")";
                System.out.println(call + " answered " + got + ", due is " + want + told);
            }
        }
    }

    static void is(String call, boolean got, boolean want) {
        is(call, got ? 1 : 0, want ? 1 : 0);
    }

    /** What follows, until the next sentence, tests these words of the document. */
    static void says(String words) {
        closeSentence();
        sentence = words;
        askedBefore = asked;
    }

    private static void closeSentence() {
        if (!sentence.isEmpty() && asked == askedBefore) {
            wrong++;
            System.out.println("nothing was asked of \"" + sentence + "\"");
        }
    }

    static void noSuch(SnowTracks yard, int walk, int what) {
        boolean thrown = false;
        try {
            yard.told(walk, what);
        } catch (java.util.NoSuchElementException e) {
            thrown = true;
        }
        is("told(" + walk + ", " + what + ") throws NoSuchElementException", thrown, true);
    }

    /** Ends the test: exit code 1 if an answer was not the one that is due. */
    static void end(String test) {
        closeSentence();
        System.out.println(test + ": " + asked + " answers, " + wrong + " not as due");
        if (wrong != 0 || asked == 0) {
            System.exit(1);
        }
    }

    /** Feeds a text, twenty bytes a call: the last call's answer. */
    static int feed(SnowTracks yard, String text) {
        int answer = yard.count(2);
        for (int from = 0; from < text.length(); from += 20) {
            int[] five = new int[5];
            for (int i = 0; i < 20; i++) {
                int sign = from + i < text.length() ? text.charAt(from + i) : 0;
                five[i / 4] |= sign << (24 - 8 * (i % 4));
            }
            answer = yard.feed(five[0], five[1], five[2], five[3], five[4]);
        }
        return answer;
    }

    /** Puts a text on an empty TAPE: its FAULT. */
    static int fault(SnowTracks yard, String text) {
        yard.end(0);
        feed(yard, text);
        return yard.fault();
    }

    /** Puts a text on an empty TAPE and makes it a WALK: its number. */
    static int walk(SnowTracks yard, String text, int pace, int boot) {
        yard.end(0);
        feed(yard, text);
        return yard.walk(pace, boot);
    }
}
