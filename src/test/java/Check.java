import java.util.NoSuchElementException;

/** What the tests share: telling a text, and counting the answers that are not due. */
final class Check {
    /** A call that may throw. */
    interface Call {
        long answer();
    }

    private static int wrong;

    private Check() {
    }

    static void due(String call, long got, long want) {
        if (got != want) {
            wrong++;
            System.out.println(call + " answered " + got + ", due is " + want);
        }
    }

    static void due(String call, boolean got, boolean want) {
        due(call, got ? 1 : 0, want ? 1 : 0);
    }

    /** Due is a NoSuchElementException, no other one and no answer. */
    static void none(String call, Call made) {
        String got;
        try {
            got = "the answer " + made.answer();
        } catch (RuntimeException e) {
            got = e.getClass() == NoSuchElementException.class ? "" : e.toString();
        }
        if (!got.isEmpty()) {
            wrong++;
            System.out.println(call + ": " + got + ", due is a NoSuchElementException");
        }
    }

    static void fail(String what) {
        wrong++;
        System.out.println(what);
    }

    /** Puts the text on the tape, which is empty, in portions of twenty bytes. */
    static void feed(ReplayBooth x, String text) {
        int[] numbers = new int[5];
        for (int from = 0; from < text.length(); from += 20) {
            for (int i = 0; i < 20; i++) {
                int b = from + i < text.length() ? text.charAt(from + i) & 255 : 0;
                numbers[i / 4] = numbers[i / 4] << 8 | b;
            }
            x.feed(numbers[0], numbers[1], numbers[2], numbers[3], numbers[4]);
        }
    }

    static int tell(ReplayBooth x, String text) {
        feed(x, text);
        return x.text(text.length());
    }

    /** A new object that is told a text without a fault. */
    static ReplayBooth told(String text) {
        ReplayBooth x = new ReplayBooth();
        int answer = tell(x, text);
        if (answer < 0) {
            int fault = -2 - answer;
            fail("a fault of kind " + (fault & 7) + " at " + (fault >> 3) + " in: " + text);
        }
        return x;
    }

    static void end(String name) {
        System.out.println(name + ": " + (wrong == 0 ? "all as due" : wrong + " not as due"));
        if (wrong != 0) {
            System.exit(1);
        }
    }
}
