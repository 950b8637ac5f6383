/** Terms 1 on TEXTS and promises 2 to 5: each sentence that names an edge has a test of its own. */
final class EdgesOfTextsTest {
    private static final int NONE = SnowTracks.NONE;
    private static final int LOW = Integer.MIN_VALUE;
    private static final int HIGH = Integer.MAX_VALUE;

    private EdgesOfTextsTest() {
    }

    public static void main(String[] args) {
        highestByteFirst();
        zerosAreLeftOut();
        moreThan160();
        firstBytesAlone();
        emptyTape();
        numbersOfOneOrTwoDigits();
        withinTheYard();
        oneMoveAtLeast();
        digits2To9();
        signsThatGoOn();
        blanksBetween();
        blanksNotWithinNumbers();
        threeWithinOneAnother();
        endsTooEarly();
        outOfBoundsAtItsLastDigit();
        thirdDigit();
        fourthBracket();
        emptyBehindAWalk();
        refusedForAFault();
        refusedOutOfBounds();
        refusedBehindEight();
        Due.end("EdgesOfTextsTest");
    }

    private static void fault(int wide, int deep, String text, int due) {
        SnowTracks yard = new SnowTracks(wide, deep, 10);
        Due.is("fault of '" + text + "' in " + wide + " " + deep, Due.fault(yard, text), due);
    }

    private static void highestByteFirst() {
        Due.says("of each number the highest first");
        SnowTracks yard = new SnowTracks(4, 4, 10);
        Due.is("@0,0", yard.feed(0x40302C30, 0x6E000000, 0, 0, 0), 5);
        Due.is("in this order", yard.fault(), NONE);
        yard.end(0);
        Due.is("0,0@", yard.feed(0x302C3040, 0x0000006E, 0, 0, 0), 5);
        Due.is("not in the other", yard.fault(), 0);
        yard.end(0);
        Due.is("twenty", yard.feed(0x40302C30, 0x6E6E6E6E, 0x65656565, 0x73737373, 0x777A6277), 20);
        Due.is("a to e", yard.fault(), NONE);
        Due.is("their walk", yard.walk(1, 0), 0);
        // 4 n (none), 4 e (three STEPS), 4 s (three STEPS), w z b w
        int[] due = {0, 0, 0, 0, 0, 1, 2, 3, 3, 19, 35, 51, 51, 50, 50, 51, 50};
        for (int i = 0; i < due.length; i++) {
            Due.is("where " + i, yard.where(0, i), due[i]);
        }
    }

    private static void zerosAreLeftOut() {
        Due.says("bytes of 0 are left out");
        SnowTracks yard = new SnowTracks(4, 4, 10);
        Due.is("nothing", yard.feed(0, 0, 0, 0, 0), 0);
        Due.is("one low", yard.feed(0, 0, 0, 0, '@'), 1);
        Due.is("one high", yard.feed('0' << 24, 0, 0, 0, 0), 2);
        Due.is("between", yard.feed(0x00002C00, 0, 0x00300000, 0, 0x6E000000), 5);
        Due.is("as if they never were", yard.fault(), NONE);
        Due.is("bytes of 255", yard.feed(0xFF00FF00, 0x80000080, 0, 0, 0), 9);
    }

    private static void moreThan160() {
        Due.says("NONE: more than 160.");
        SnowTracks yard = new SnowTracks(4, 4, 10);
        String text = "@0,0" + "n".repeat(155);
        Due.is("159", Due.feed(yard, text), 159);
        Due.is("161", yard.feed('x' << 24, 0, 0, 0, 'x'), NONE);
        Due.is("none of them came", yard.count(2), 159);
        Due.is("none of them came", yard.fault(), NONE);
        Due.is("179", yard.feed(-1, -1, -1, -1, -1), NONE);
        Due.is("160", yard.feed(0, 0, 'n', 0, 0), 160);
        Due.is("one more", yard.feed(0, 0, 'n', 0, 0), NONE);
        Due.is("nothing more", yard.feed(0, 0, 0, 0, 0), 160);
        Due.is("160 are a WALK", yard.fault(), NONE);
        Due.is("160 are a WALK", yard.walk(1, 1), 0);
        Due.is("160 again", Due.feed(yard, text + "n"), 160);
    }

    private static void firstBytesAlone() {
        Due.says("The TAPE has its first n bytes alone. False: n.");
        SnowTracks yard = new SnowTracks(4, 4, 10);
        Due.is("0 of 0", yard.end(0), true);
        Due.is("1 of 0", yard.end(1), false);
        Due.is("-1 of 0", yard.end(-1), false);
        Due.feed(yard, "@0,0" + "e".repeat(156));
        for (int n : new int[] {161, -1, LOW, HIGH}) {
            Due.is(n + " of 160", yard.end(n), false);
            Due.is("after " + n, yard.count(2), 160);
        }
        Due.is("160 of 160", yard.end(160), true);
        Due.is("all are there", yard.count(2), 160);
        Due.is("5 of 160", yard.end(5), true);
        Due.is("5 are there", yard.count(2), 5);
        Due.is("6 of 5", yard.end(6), false);
        Due.is("the first 5", yard.walk(1, 0), 0);
        Due.is("one MOMENT", yard.told(0, 0), 1);
        Due.is("a STEP east", yard.where(0, 1), 1);
    }

    private static void emptyTape() {
        Due.says("The FAULT of the TAPE; NONE.");
        fault(4, 4, "", 0);
        fault(4, 4, "@0,0n", NONE);
        fault(4, 4, " ", 1);
        fault(4, 4, "x", 0);
    }

    private static void numbersOfOneOrTwoDigits() {
        Due.says("@ X , Y (where it begins: numbers of one or two digits");
        for (int i = 0; i <= 15; i++) {
            fault(16, 16, "@" + i + ",0n", NONE);
            fault(16, 16, "@0," + i + "n", NONE);
            SnowTracks yard = new SnowTracks(16, 16, 10);
            Due.walk(yard, "@" + i + "," + (15 - i) + "z", 1, 0);
            Due.is("it begins in " + i, yard.where(0, 0), 16 * (15 - i) + i);
        }
        for (int i = 0; i <= 9; i++) {
            fault(16, 16, "@0" + i + ",0" + i + "n", NONE);
            SnowTracks yard = new SnowTracks(16, 16, 10);
            Due.walk(yard, "@0" + i + ",0" + i + "z", 1, 0);
            Due.is("it begins in 0" + i, yard.where(0, 0), 17 * i);
        }
        SnowTracks yard = new SnowTracks(16, 16, 10);
        Due.is("a digit behind Y is Y's", Due.walk(yard, "@1,02z", 1, 0), 0);
        Due.is("a digit behind Y is Y's", yard.where(0, 0), 33);
        Due.is("a digit behind Y is Y's", yard.told(0, 0), 1);
        fault(16, 16, "@,0n", 1);
        fault(16, 16, "@0,n", 3);
        fault(16, 16, "@-1,0n", 1);
    }

    private static void withinTheYard() {
        Due.says("within the yard)");
        for (int size = 2; size <= 16; size++) {
            int last = size - 1;
            int lastDigit = size < 10 ? 1 : 2;
            fault(size, 16, "@" + last + ",15n", NONE);
            fault(size, 16, "@" + size + ",0n", lastDigit);
            fault(16, size, "@15," + last + "n", NONE);
            fault(16, size, "@1," + size + "n", lastDigit + 2);
        }
    }

    private static void oneMoveAtLeast() {
        Due.says("then MOVES, one at least");
        fault(4, 4, "@0,0", 4);
        fault(4, 4, "@0,0   ", 7);
        fault(4, 4, "@0,0z", NONE);
        fault(4, 4, "@0,0()", 5);
        fault(4, 4, "@0,0n()", 6);
        fault(4, 4, "@0,0(n())", 7);
        fault(4, 4, "@0,0(n)()", 8);
        fault(4, 4, "@0,0(n)( )n", 9);
        fault(4, 4, "@0,0((n)e)", NONE);
        fault(4, 4, "@0,0 3", 6);
        fault(4, 4, "@0,0(3)", 6);
    }

    private static void digits2To9() {
        Due.says("perhaps a digit 2 .. 9 (so many times what follows)");
        for (int digit = 0; digit <= 9; digit++) {
            int due = digit < 2 ? 5 : NONE;
            fault(4, 4, "@0,0 " + digit + "n", due);
            fault(4, 4, "@0,0 " + digit + "(n)", due);
            fault(4, 4, "@0,0 " + digit + digit + "n", digit < 2 ? 5 : 6);
            fault(4, 4, "@0,0 " + digit + " 2n", digit < 2 ? 5 : 7);
            if (digit >= 2) {
                SnowTracks yard = new SnowTracks(16, 16, 10);
                Due.walk(yard, "@0,0 " + digit + "es", 1, 0);
                Due.walk(yard, "@0,0 " + digit + "(es)e", 1, 0);
                Due.is(digit + " times one", yard.told(0, 0), digit + 1);
                Due.is(digit + " times one", yard.where(0, digit), digit);
                Due.is(digit + " times a pair", yard.told(1, 0), 2 * digit + 1);
                Due.is(digit + " times a pair", yard.where(1, 2 * digit), 17 * digit);
            }
        }
    }

    private static void signsThatGoOn() {
        Due.says("then n e s w z b or ( MOVES )");
        for (char sign = 1; sign <= 255; sign++) {
            boolean move = "neswzb".indexOf(sign) >= 0;
            boolean opens = "(23456789".indexOf(sign) >= 0;
            String behind = "@0,0n" + sign;
            fault(4, 4, behind, move || sign == ' ' ? NONE : opens ? 6 : 5);
            String first = "@0,0 " + sign;
            fault(4, 4, first, move ? NONE : opens || sign == ' ' ? 6 : 5);
            fault(4, 4, "" + sign, sign == '@' || sign == ' ' ? 1 : 0);
            boolean digit = sign >= '0' && sign <= '9';
            fault(16, 4, "@" + sign, digit || sign == ' ' ? 2 : 1);
            boolean inBounds = sign == '0' || sign == '1';
            fault(12, 4, "@1" + sign, inBounds || sign == ' ' || sign == ',' ? 3 : 2);
        }
    }

    private static void blanksBetween() {
        Due.says("Blanks (32) may stand between all these");
        String dense = "@3,2 2(n3(e)b)z";
        String[] parts = {"", "@", "3", ",", "2", " ", "2", "(", "n", "3", "(", "e", ")", "b", ")", "z"};
        for (int at = 0; at < parts.length; at++) {
            StringBuilder text = new StringBuilder();
            for (int i = 0; i < parts.length; i++) {
                text.append(parts[i]).append(i == at ? "   " : "");
            }
            fault(4, 4, text.toString(), NONE);
            SnowTracks yard = new SnowTracks(4, 4, 10);
            Due.walk(yard, text.toString(), 1, 0);
            Due.walk(yard, dense, 1, 0);
            for (int i = 0; i <= 11; i++) {
                Due.is("where " + i + " of '" + text + "'", yard.where(0, i), yard.where(1, i));
            }
        }
        fault(4, 4, "@\t0,0n", 1);
        fault(4, 4, "@0,0\nn", 4);
        fault(4, 4, "@0,0n" + (char) 160, 5);
        fault(4, 4, "@0,0n" + (char) 31, 5);
        fault(4, 4, "@0,0n" + (char) 33, 5);
    }

    private static void blanksNotWithinNumbers() {
        Due.says("not within numbers");
        fault(16, 16, "@1 2,0n", 3);
        fault(16, 16, "@1  2", 4);
        fault(16, 16, "@0,1 1n", 5);
        // a digit behind blanks is a digit of the MOVES
        fault(16, 16, "@0,1 2n", NONE);
        SnowTracks yard = new SnowTracks(16, 16, 10);
        Due.walk(yard, "@0,1 2s", 1, 0);
        Due.is("Y ends at the blank", yard.where(0, 0), 16);
        Due.is("so many times", yard.where(0, 2), 48);
    }

    private static void threeWithinOneAnother() {
        Due.says("at most three ( within one another");
        fault(4, 4, "@0,0(n)", NONE);
        fault(4, 4, "@0,0((n))", NONE);
        fault(4, 4, "@0,0(((n)))", NONE);
        fault(4, 4, "@0,0(((n)))(((n)))", NONE);
        fault(4, 4, "@0,0(n)(n)(n)(n)(n)", NONE);
        fault(4, 4, "@0,0((n(n)(n)(n))(n(n)))", NONE);
        SnowTracks yard = new SnowTracks(16, 16, 10);
        Due.walk(yard, "@0,0 2(e2(s2(n)))", 1, 0);
        Due.walk(yard, "@0,0 (2(2(e)2(s))z)2(e)", 1, 0);
        Due.is("three within one another", yard.told(0, 0), 14);
        Due.is("back to one", yard.told(1, 0), 11);
        Due.is("back to one", yard.where(1, 11), 70);
        Due.walk(yard, "@0,0 2(e)2(s)2(e)2(s)2(e)2((s))", 1, 0);
        Due.is("one behind the other are not within", yard.told(2, 0), 12);
        Due.is("one behind the other are not within", yard.where(2, 12), 102);
        Due.walk(yard, "@0,0 (e)2(2(2(s)))e", 1, 0);
        Due.is("one, then three within one another", yard.told(3, 0), 10);
        Due.is("one, then three within one another", yard.where(3, 9), 129);
    }

    /** Each beginning of a WALK is a WALK itself, or ends too early. */
    private static void endsTooEarly() {
        Due.says("(the length, if it ends too early)");
        String text = " @ 11 , 03 2 ( n 3 ( e 4(s) ) z ) b 2w(n)";
        SnowTracks yard = new SnowTracks(16, 16, 10);
        Due.feed(yard, text);
        Due.is("the whole", yard.fault(), NONE);
        int lastClosed = text.indexOf(") b") + 1;
        for (int n = text.length(); n >= 0; n--) {
            Due.is("end(" + n + ")", yard.end(n), true);
            char last = n == 0 ? '@' : text.charAt(n - 1);
            boolean opens = last == '2' || last == '(' || text.indexOf("n)") + 1 == n;
            boolean whole = n >= lastClosed && !opens;
            Due.is("fault of the first " + n, yard.fault(), whole ? NONE : n);
        }
    }

    private static void outOfBoundsAtItsLastDigit() {
        Due.says("X or Y out of bounds is wrong at its last digit");
        fault(4, 4, "@4,0n", 1);
        fault(4, 4, "@4", 1);
        fault(4, 4, "@04,0n", 2);
        fault(4, 4, "@10,0n", 2);
        fault(4, 4, "@40,0n", 2);
        fault(4, 4, "@99", 2);
        fault(4, 4, "@4 0,0n", 1);
        fault(4, 4, "@ 4x", 2);
        fault(4, 4, "@0,4n", 3);
        fault(4, 4, "@0,4", 3);
        fault(4, 4, "@0,04n", 4);
        fault(4, 4, "@0,10n", 4);
        fault(4, 4, "@0,32n", 4);
        fault(4, 4, "@00 , 99", 7);
        fault(16, 16, "@16,0n", 2);
        fault(16, 16, "@0,16n", 4);
        fault(16, 16, "@0,16x", 4);
        fault(2, 16, "@2,99n", 1);
    }

    private static void thirdDigit() {
        Due.says("a third digit, a fourth ( are wrong, too");
        fault(16, 16, "@001,0n", 3);
        fault(16, 16, "@150,0n", 3);
        fault(16, 16, "@15", 3);
        fault(16, 16, "@000", 3);
        fault(16, 16, "@0,001n", 5);
        fault(16, 16, "@0,012n", 5);
        fault(16, 16, "@0,15 2n", NONE);
        // the first wrong byte counts: two digits that are out of bounds come before a third
        fault(16, 16, "@160,0n", 2);
        fault(16, 16, "@0,991n", 4);
    }

    private static void fourthBracket() {
        Due.says("a third digit, a fourth ( are wrong, too");
        fault(4, 4, "@0,0((((", 7);
        fault(4, 4, "@0,0((((n))))", 7);
        fault(4, 4, "@0,0 2(2(2(2(n))))", 12);
        fault(4, 4, "@0,0(((n)(n(", 11);
        fault(4, 4, "@0,0(((n))((e)))((((", 19);
        fault(4, 4, "@0,0(((n)((e))))", 10);
    }

    private static void emptyBehindAWalk() {
        Due.says("The TAPE (empty then) is a WALK with a PACE and a BOOT: its number.");
        SnowTracks yard = new SnowTracks(4, 4, 10);
        for (int i = 0; i < 8; i++) {
            Due.feed(yard, "@0,0 2e");
            Due.is("walk " + i, yard.walk(1 + i, 9 - i), i);
            Due.is("no byte is left", yard.count(2), 0);
            Due.is("no byte is left", yard.fault(), 0);
            Due.is("PACE " + i, yard.told(i, 1), 1 + i);
            Due.is("BOOT " + i, yard.told(i, 2), 9 - i);
        }
    }

    private static void refusedForAFault() {
        Due.says("NONE: a FAULT");
        String[] texts = {"", "@", "@0,0", "@0,0x", "@0,0n)", "@0,0(n", "@4,0n", "@0,0 1n", "@0,0((((n))))"};
        for (String text : texts) {
            SnowTracks yard = new SnowTracks(4, 4, 10);
            Due.is("walk of '" + text + "'", Due.walk(yard, text, 1, 0), NONE);
            Due.is("no WALK of '" + text + "'", yard.count(0), 0);
            Due.is("the TAPE of '" + text + "'", yard.count(2), text.length());
        }
    }

    private static void refusedOutOfBounds() {
        Due.says("A WALK has a PACE (1 .. 9 ticks for a MOMENT) and a BOOT (0 .. 9)");
        int[][] refused = {{0, 0}, {10, 0}, {-1, 0}, {1, -1}, {1, 10}, {9, 10}, {LOW, 0}, {HIGH, 0},
            {1, LOW}, {1, HIGH}, {0, 10}, {257, 0}, {1, 256}};
        SnowTracks yard = new SnowTracks(4, 4, 10);
        Due.feed(yard, "@0,0n");
        for (int[] r : refused) {
            Due.is("walk(" + r[0] + ", " + r[1] + ")", yard.walk(r[0], r[1]), NONE);
            Due.is("the TAPE stays", yard.count(2), 5);
            Due.is("no WALK", yard.count(0), 0);
        }
        int[][] taken = {{1, 0}, {9, 9}, {1, 9}, {9, 0}};
        for (int i = 0; i < taken.length; i++) {
            Due.is("walk " + i, Due.walk(yard, "@0,0n", taken[i][0], taken[i][1]), i);
        }
    }

    private static void refusedBehindEight() {
        Due.says("there are eight.");
        SnowTracks yard = new SnowTracks(4, 4, 10);
        for (int i = 0; i < 8; i++) {
            Due.is("walk " + i, Due.walk(yard, "@1,1n", 1, 1), i);
        }
        Due.is("a ninth", Due.walk(yard, "@0,0n", 1, 1), NONE);
        Due.is("eight", yard.count(0), 8);
        Due.is("the TAPE stays", yard.count(2), 5);
        Due.is("the TAPE has no FAULT", yard.fault(), NONE);
        Due.noSuch(yard, 8, 0);
        Due.is("where of a ninth", yard.where(8, 0), NONE);
        Due.is("the eighth", yard.where(7, 0), 17);
    }
}
