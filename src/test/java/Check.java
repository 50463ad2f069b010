import java.util.NoSuchElementException;

/** What the tests share: telling a text, and counting the answers that are not due. */
final class Check {
    /** A call that may throw. */
    interface Call {
        long answer();
    }

    private static final int MOST_TOLD = 40;

    private static int wrong;
    private static int sentences;
    private static String sentence = "";

    private Check() {
    }

    /** The sentence of the document to which the answers are held from here on. */
    static void sentence(String words) {
        sentence = "\"" + words + "\": ";
        sentences++;
    }

    static void due(String call, long got, long want) {
        if (got != want) {
            fail(call + " answered " + got + ", due is " + want);
        }
    }

    static void due(String call, boolean got, boolean want) {
        due(call, got ? 1 : 0, want ? 1 : 0);
    }

    /** Due is a NoSuchElementException, no other one and no answer. */
    static void none(String call, Call made) {
        String got;
        try {
            got = "the answer " + made.answer();
        } catch (RuntimeException e) {
            got = e.getClass() == NoSuchElementException.class ? "" : e.toString();
        }
        if (!got.isEmpty()) {
            fail(call + ": " + got + ", due is a NoSuchElementException");
        }
    }

    static void fail(String what) {
        wrong++;
        if (wrong <= MOST_TOLD) {
            System.out.println(sentence + what);
        }
    }

    /** Numbers that are none of so many: one too small, one too large, and the ends of int. */
    static int[] noneOf(int count) {
        return new int[] {-1, count, Integer.MIN_VALUE, Integer.MAX_VALUE};
    }

    /** Puts the text on the tape, which is empty, in portions of twenty bytes. */
    static void feed(ReplayBooth x, String text) {
        int[] numbers = new int[5];
        for (int from = 0; from < text.length(); from += 20) {
            for (int i = 0; i < 20; i++) {
                int b = from + i < text.length() ? text.charAt(from + i) & 255 : 0;
                numbers[i / 4] = numbers[i / 4] << 8 | b;
            }
            x.feed(numbers[0], numbers[1], numbers[2], numbers[3], numbers[4]);
        }
    }

    static int tell(ReplayBooth x, String text) {
        feed(x, text);
        return x.text(text.length());
    }

    /** A new object that is told a text without a fault. */
    static ReplayBooth told(String text) {
        ReplayBooth x = new ReplayBooth();
        int answer = tell(x, text);
        if (answer == -1) {
            fail("too long: " + text);
        } else if (answer < 0) {
            int fault = -2 - answer;
            fail("a fault of kind " + (fault & 7) + " at " + (fault >> 3) + " in: " + text);
        }
        return x;
    }

    /** The bar in the text is the place of the fault, and no part of it. */
    static void fault(String marked, int kind) {
        int place = marked.indexOf('|');
        String text = marked.substring(0, place) + marked.substring(place + 1);
        ReplayBooth x = new ReplayBooth();
        due(marked, tell(x, text), -2 - (8 * place + kind));
        due("the tape behind " + marked, x.count(9), 0);
    }

    static void fine(String text, int plays) {
        due(text, tell(new ReplayBooth(), text), plays);
    }

    /** All that can be seen of THE DAY, and how much can be UNDONE; 150 calls at most. */
    static String day(ReplayBooth x) {
        StringBuilder seen = new StringBuilder();
        seen.append("happened ").append(x.count(6)).append(" undo ").append(x.count(8)).append(" extra ").append(x.extra());
        for (int side = 0; side < x.count(2); side++) {
            seen.append(" side");
            for (int what = 1; what <= 3; what++) {
                seen.append(' ').append(x.side(side, what));
            }
        }
        for (int play = 0; play < x.count(5); play++) {
            seen.append(" play");
            for (int what = 6; what <= 8; what++) {
                seen.append(' ').append(x.play(play, what));
            }
            seen.append(" minute ").append(x.seconds(x.play(play, 0)));
        }
        for (int ago = 0; ago < x.count(7); ago++) {
            seen.append(" row");
            for (int what = 0; what <= 3; what++) {
                seen.append(' ').append(x.log(ago, what));
            }
        }
        return seen.toString();
    }

    static void same(String when, String got, String want) {
        if (!got.equals(want)) {
            fail(when + ": " + got + "; due is: " + want);
        }
    }

    /** A new object that is told a text, of which so many PLAYS happen. */
    static ReplayBooth happened(String text, int times) {
        ReplayBooth x = told(text);
        for (int i = 0; i < times; i++) {
            x.next();
        }
        return x;
    }

    static void end(String name) {
        String held = sentences == 0 ? "" : " (" + sentences + " sentences)";
        System.out.println(name + ": " + (wrong == 0 ? "all as due" : wrong + " not as due") + held);
        if (wrong != 0) {
            System.exit(1);
        }
    }
}
