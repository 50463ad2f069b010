/** Back and count (promises 1 and 33 to 35) at their bounds, a sentence a test. */
public final class BackEdgesTest {
    /** Eight PLAYS that can be challenged and put, each call of them wrong; the first one begins again. */
    private static final String EIGHT = "camera a 0 0;side s 3;side t 3;kind k 1 0 before 1;kind g 1 again 0 before 1;"
            + "board c 1(a);bonus 2;window 9;" + plays();

    public static void main(String[] args) {
        newObject();
        nothingTold();
        undoNone();
        undoTwelve();
        undoRing();
        undoOneByOne();
        undoRestart();
        undoActs();
        keepNone();
        keepEmpty();
        keepBack();
        keepLaid();
        keepTwo();
        count();
        countNone();
        anyArguments();
        Check.end("BackEdgesTest");
    }

    private static void due(String call, long got, long want) {
        Check.due(call, got, want);
    }

    private static String plays() {
        StringBuilder out = new StringBuilder();
        for (char c = 'a'; c < 'i'; c++) {
            out.append("play x").append(c).append(" 1 ").append(c == 'a' ? 'g' : 'k').append(" s 1 no a 5!0?1;");
        }
        return out.toString();
    }

    private static ReplayBooth happened(int times) {
        return Check.happened(EIGHT, times);
    }

    // ---- promise 1

    private static void newObject() {
        Check.sentence("A new object: Nothing is told");
        ReplayBooth x = new ReplayBooth();
        int[] counts = {0, 0, 0, 0, 0, 0, 0, 0, 0, 0, 0, 60, 0, 1000, 1};
        for (int what = 0; what < counts.length; what++) {
            due("count " + what, x.count(what), counts[what]);
        }
        due("next", x.next(), -1);
        due("undo", x.undo(), -1);
        due("wrong", x.wrong(), 0);
        due("extra", x.extra(), 0);
        due("text(0)", x.text(0), 0);
        due("text(1)", x.text(1), -1);
        Check.due("keep 0 back", x.keep(0, true), false);
        Check.due("keep 1 back", x.keep(1, true), false);
        Check.sentence("one object knows nothing of another");
        ReplayBooth y = happened(3);
        y.sheet(2, 0, 0);
        due("plays of a new one", new ReplayBooth().count(5), 0);
        due("bytes", new ReplayBooth().count(9), 0);
        due("its own", y.count(6), 3);
    }

    private static void nothingTold() {
        Check.sentence("bytes on THE TAPE tell nothing yet");
        ReplayBooth x = new ReplayBooth();
        Check.feed(x, "camera a 1 1;side s 2;limit 5;  ");
        due("cameras", x.count(0), 0);
        due("sides", x.count(2), 0);
        due("limit", x.count(11), 60);
        due("camera", x.camera(0, 0), -1);
    }

    // ---- promise 33

    private static void undoNone() {
        Check.sentence("undo: NONE: none can be");
        due("of a new object", new ReplayBooth().undo(), -1);
        ReplayBooth x = happened(1);
        due("the only one", x.undo(), 0);
        String before = Check.day(x);
        due("none", x.undo(), -1);
        due("none once more", x.undo(), -1);
        Check.same("behind a refused undo", Check.day(x), before);
        due("it can go on", x.next(), 3);
        due("that can be undone", x.undo(), 0);
    }

    private static void undoTwelve() {
        Check.sentence("the last 12 can be UNDONE");
        for (int acts = 11; acts <= 14; acts++) {
            ReplayBooth x = happened(8);
            for (int play = 1; play <= acts - 8; play++) {
                x.put(0, play);
            }
            due("acts", x.count(8), Math.min(acts, 12));
            int can = Math.min(acts, 12);
            for (int i = 1; i <= can; i++) {
                due("undo " + i + " of " + acts, x.undo(), can - i);
            }
            due("one more of " + acts, x.undo(), -1);
            due("happened of " + acts, x.count(6), acts - can);
        }
    }

    /** Twelve ACTS again and again, each time behind some that are gone by a KEEP. */
    private static void undoRing() {
        Check.sentence("the last 12 can be UNDONE, again and again");
        ReplayBooth x = happened(8);
        x.keep(0, false);
        for (int round = 0; round < 8; round++) {
            for (int play = 1; play <= round; play++) {
                x.put(0, play % 8);
            }
            x.keep(0, true);
            for (int play = 4; play < 8; play++) {
                x.put(0, play);
            }
            x.challenge(0, 0);
            for (int play = 1; play < 8; play++) {
                x.next();
            }
            due("acts of round " + round, x.count(8), 12);
            for (int i = 1; i <= 7; i++) {
                due("undo a play", x.undo(), 12 - i);
                due("happened", x.count(6), 8 - i);
            }
            due("undo the challenge", x.undo(), 4);
            due("happened", x.count(6), 8);
            for (int play = 7; play >= 4; play--) {
                due("was put", x.play(play, 8), 1);
                due("undo a putting", x.undo(), play - 4);
                due("is not put", x.play(play, 8), 0);
            }
            due("no more in round " + round, x.undo(), -1);
        }
    }

    private static void undoOneByOne() {
        Check.sentence("one by one: THE DAY is as it was ahead of it");
        ReplayBooth first = Check.told(EIGHT);
        String[] days = new String[10];
        int[][] acts = {{-1}, {-1}, {-1}, {0, 1}, {5, 1}, {5, 2}, {-1}, {1, 3}, {5, 0}, {-1}};
        for (int act = 0; act < 10; act++) {
            // a fresh one for each day, as a look at the whole day takes many calls
            ReplayBooth x = Check.told(EIGHT);
            for (int i = 0; i < act; i++) {
                does(x, acts[i]);
            }
            days[act] = Check.day(x);
            does(first, acts[act]);
        }
        for (int act = 9; act >= 0; act--) {
            due("undo", first.undo(), act);
            ReplayBooth x = Check.told(EIGHT);
            for (int i = 0; i < 10; i++) {
                does(x, acts[i]);
            }
            for (int i = 9; i >= act; i--) {
                x.undo();
            }
            Check.same("undone to " + act, Check.day(x), days[act]);
        }
        due("none more", first.undo(), -1);
    }

    /** The next PLAY, a putting to the BOARD (5) or a challenge of a SIDE. */
    private static void does(ReplayBooth x, int[] act) {
        if (act.length == 1) {
            x.next();
        } else if (act[0] == 5) {
            x.put(0, act[1]);
        } else {
            x.challenge(act[0], act[1]);
        }
    }

    private static void undoRestart() {
        Check.sentence("a RE-START UNDONE: PLAYS behind it have happened, as they had");
        ReplayBooth x = happened(4);
        x.challenge(0, 1);
        x.put(0, 2);
        String before = Check.day(x);
        due("begins again", x.challenge(1, 0), 2);
        due("happened", x.count(6), 1);
        due("undone", x.undo(), 6);
        Check.same("undone", Check.day(x), before);
        due("q's call", x.play(1, 6), 1);
        due("q was reviewed", x.challenge(0, 1), -2);
        due("r was put", x.put(0, 2), -2);
    }

    private static void undoActs() {
        Check.sentence("ACTS: PLAYS that happen, challenges, puttings to BOARDS (those that can be), no other call");
        ReplayBooth x = happened(2);
        due("two plays", x.count(8), 2);
        x.challenge(0, 0);
        due("a challenge", x.count(8), 3);
        x.next();
        x.put(0, 1);
        due("a play and a putting", x.count(8), 5);
        x.keep(0, false);
        x.look(0, 0);
        x.votes(0, 0);
        x.left(0);
        x.need(0);
        x.sheet(2, 0, 1);
        x.fewest(0);
        x.feed(0, 0, 0, 0, 0);
        x.keep(1, true);
        x.keep(2, true);
        x.text(-1);
        x.put(0, 1);
        x.challenge(0, 0);
        x.challenge(9, 0);
        x.put(9, 0);
        due("no other", x.count(8), 5);
    }

    // ---- promise 34

    private static void keepNone() {
        Check.sentence("keep: false: none such");
        ReplayBooth x = happened(2);
        for (int none : Check.noneOf(2)) {
            Check.due("laid " + none, x.keep(none, false), false);
            Check.due("back " + none, x.keep(none, true), false);
        }
        due("acts stay", x.count(8), 2);
        Check.due("nothing was laid in 0", x.keep(0, true), false);
        Check.due("nothing was laid in 1", x.keep(1, true), false);
    }

    private static void keepEmpty() {
        Check.sentence("keep: false: nothing is in it (back)");
        for (int k = 0; k < 2; k++) {
            ReplayBooth x = happened(2);
            String before = Check.day(x);
            Check.due("back " + k, x.keep(k, true), false);
            Check.same("behind a refused keep", Check.day(x), before);
            Check.due("the other one laid", x.keep(1 - k, false), true);
            Check.due("back " + k, x.keep(k, true), false);
            due("acts stay", x.undo(), 1);
            Check.due("the other one back", x.keep(1 - k, true), true);
            due("happened", x.count(6), 2);
        }
    }

    private static void keepBack() {
        Check.sentence("KEEPS hold THE DAY as it is (nothing can be UNDONE when one is gone back to)");
        ReplayBooth x = happened(3);
        x.challenge(0, 1);
        x.put(0, 2);
        String before = Check.day(x);
        Check.due("laid", x.keep(0, false), true);
        due("acts stay", x.count(8), 5);
        x.next();
        x.challenge(1, 0);
        x.next();
        x.put(0, 1);
        Check.due("back", x.keep(0, true), true);
        Check.same("back", Check.day(x), before.replace("undo 5", "undo 0"));
        due("undo", x.undo(), -1);
        x.put(0, 0);
        due("acts from there on", x.count(8), 1);
        due("undone", x.undo(), 0);
        due("no more", x.undo(), -1);
        Check.due("back once more", x.keep(0, true), true);
        due("happened", x.count(6), 3);
        due("points", x.side(0, 3), 2);
    }

    private static void keepLaid() {
        Check.sentence("keep: A KEEP is laid, over the one that was there; what comes then leaves it as it is");
        ReplayBooth x = happened(1);
        x.keep(0, false);
        x.next();
        Check.due("laid anew", x.keep(0, false), true);
        x.put(0, 0);
        x.undo();
        x.undo();
        x.undo();
        due("undone", x.count(6), 0);
        Check.due("back", x.keep(0, true), true);
        due("happened", x.count(6), 2);
        due("not put", x.play(0, 8), 0);
        x.put(0, 0);
        Check.due("back again", x.keep(0, true), true);
        due("still not put", x.play(0, 8), 0);
        ReplayBooth empty = new ReplayBooth();
        Check.due("of a new object laid", empty.keep(0, false), true);
        Check.due("of a new object back", empty.keep(0, true), true);
    }

    private static void keepTwo() {
        Check.sentence("KEEPS 0 and 1");
        ReplayBooth x = happened(2);
        Check.due("laid 0", x.keep(0, false), true);
        x.next();
        Check.due("laid 1", x.keep(1, false), true);
        x.next();
        Check.due("back 0", x.keep(0, true), true);
        due("happened", x.count(6), 2);
        Check.due("back 1", x.keep(1, true), true);
        due("happened", x.count(6), 3);
        due("undo", x.undo(), -1);
        Check.due("back 0 again", x.keep(0, true), true);
        due("happened", x.count(6), 2);
    }

    // ---- promise 35

    private static void count() {
        Check.sentence("count: each what, at its most");
        StringBuilder text = new StringBuilder("limit 999;bonus 9;last 999;window 9;");
        for (char c = 'a'; c < 'f'; c++) {
            text.append("camera ").append(c).append(" 1 1;kind k").append(c).append(" 1 0 before 1;");
            text.append(c < 'e' ? "side s" + c + " 9;" : "").append(c < 'd' ? "board b" + c + " 1(a);" : "");
        }
        for (int i = 0; i < 6; i++) {
            text.append("flash a 1 b 1;");
        }
        for (char c = 'a'; c < 'e'; c++) {
            text.append("play p").append(c).append(" 999 ke sd 1 no;");
        }
        ReplayBooth x = Check.told(text.toString());
        int[] counts = {5, 6, 4, 5, 3, 4, 0, 0, 0, 0, 0, 999, 9, 999, 9};
        for (int what = 0; what < counts.length; what++) {
            due("count " + what, x.count(what), counts[what]);
        }
        for (int i = 0; i < 4; i++) {
            x.next();
        }
        x.put(0, 0);
        x.sheet(2, 1, 4);
        x.feed(0, 0, 0, 0, 0);
        int[] then = {5, 6, 4, 5, 3, 4, 4, 5, 5, 20, 3, 999, 9, 999, 9};
        for (int what = 0; what < then.length; what++) {
            due("count " + what + " then", x.count(what), then[what]);
        }
    }

    private static void countNone() {
        Check.sentence("count: NONE for another what");
        ReplayBooth x = happened(2);
        for (int none : Check.noneOf(15)) {
            due("count " + none, x.count(none), -1);
            due("count " + none + " of a new object", new ReplayBooth().count(none), -1);
        }
        due("count 16", x.count(16), -1);
    }

    // ---- any arguments

    private static final int[] ANY = {Integer.MIN_VALUE, Integer.MIN_VALUE + 1, -2147483617, -33, -32, -2, -1, 0, 1, 2, 3, 8,
        16, 31, 32, 33, 600, 1 << 30, Integer.MAX_VALUE - 1, Integer.MAX_VALUE};

    /** What a call throws other than its NoSuchElementException is counted as a wrong answer. */
    private static void holds(String call, Check.Call made) {
        try {
            made.answer();
        } catch (java.util.NoSuchElementException e) {
            boolean may = call.startsWith("frame") || call.startsWith("log") || call.startsWith("row");
            Check.due(call + " may throw", may, true);
        } catch (RuntimeException e) {
            Check.fail(call + " throws " + e);
        }
    }

    private static void anyArguments() {
        Check.sentence("a call throws what the document says, and nothing else, for any arguments in any state");
        for (int state = 0; state < 4; state++) {
            for (int a : ANY) {
                ofOne(made(state), a);
                for (int b : ANY) {
                    ofTwo(made(state), a, b);
                }
            }
        }
    }

    private static ReplayBooth made(int state) {
        switch (state) {
            case 0:
                return new ReplayBooth();
            case 1:
                return Check.told(EIGHT);
            case 2:
                return happened(8);
            default:
                return Check.told("camera a 0 0;camera b 1 1;flash a 1 b 1;side s 0;kind k 1 0 before 1;play p 1 k s 1 no a 1;");
        }
    }

    private static void ofOne(ReplayBooth x, int a) {
        String tail = " of " + a;
        holds("seconds" + tail, () -> x.seconds(a));
        holds("count" + tail, () -> x.count(a));
        holds("row" + tail, () -> x.row(a));
        holds("fewest" + tail, () -> x.fewest(a));
        holds("key" + tail, () -> x.key(a));
        holds("enough" + tail, () -> x.enough(a));
        holds("mend" + tail, () -> x.mend(a));
        holds("boards" + tail, () -> x.boards(a));
        holds("truth" + tail, () -> x.truth(a));
        holds("range" + tail, () -> x.range(a, true));
        holds("left" + tail, () -> x.left(a));
        holds("need" + tail, () -> x.need(a));
        holds("keep" + tail, () -> x.keep(a, false) ? 1 : 0);
        holds("keep back" + tail, () -> x.keep(a, true) ? 1 : 0);
        holds("feed" + tail, () -> x.feed(a, a, a, a, a));
        holds("text" + tail, () -> x.text(a));
    }

    private static void ofTwo(ReplayBooth x, int a, int b) {
        String tail = " of " + a + " " + b;
        holds("camera" + tail, () -> x.camera(a, b));
        holds("kind" + tail, () -> x.kind(a, b));
        holds("side" + tail, () -> x.side(a, b));
        holds("play" + tail, () -> x.play(a, b));
        holds("frame" + tail, () -> x.frame(a, b, b));
        holds("frame 0" + tail, () -> x.frame(0, a, b));
        holds("verdict" + tail, () -> x.verdict(a, b));
        holds("by" + tail, () -> x.by(a, b));
        holds("gap" + tail, () -> x.gap(a, b, b, true));
        holds("gap 0" + tail, () -> x.gap(0, a, b, false));
        holds("look" + tail, () -> x.look(a, b));
        holds("challenge" + tail, () -> x.challenge(a, b));
        holds("put" + tail, () -> x.put(a, b));
        holds("votes" + tail, () -> x.votes(a, b));
        holds("pivot" + tail, () -> x.pivot(a, b));
        holds("log" + tail, () -> x.log(a, b));
        holds("sheet" + tail, () -> x.sheet(2, a, b));
        holds("sheet kind" + tail, () -> x.sheet(a, b, b));
    }
}
