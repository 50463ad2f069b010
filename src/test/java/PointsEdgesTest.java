/** Points and time (promises 23 to 32) at their bounds, a sentence a test. */
public final class PointsEdgesTest {
    private static final String HEAD = "camera a 0 0;side s 1;side t 0;kind k 20 0 before 1;kind f 20 forced 0 before 1;";

    private static final String IS_YES = " a 5!0?1;";
    private static final String IS_NO = " a 5?0!1;";
    private static final String IS_OPEN = " a 5!0;";
    private static final String IS_TORN = " a 5!0 a 5?0;";

    /** Of each side each verdict, told yes and told no; the POINTS tell by their digits which ones are there. */
    private static final String ALL = HEAD + "play xa 1 k s 1 yes" + IS_YES + "play xb 1 k s 2 no" + IS_YES
            + "play xc 1 k s 4 yes" + IS_NO + "play xd 1 k s 8 no" + IS_NO + "play xe 1 k s 16 yes" + IS_OPEN
            + "play xf 1 k s 32 no" + IS_OPEN + "play xg 1 k s 64 yes" + IS_TORN + "play xh 1 k s 99 no" + IS_TORN;

    public static void main(String[] args) {
        truth();
        range();
        wrong();
        noneSuch();
        left();
        leftFromTheFirst();
        needAgainst();
        needAtOnce();
        needMost();
        needBonus();
        needAnew();
        seconds();
        secondsOfAll();
        secondsOfMost();
        extra();
        extraOfEach();
        logRows();
        logNone();
        logSixteen();
        sheetKinds();
        sheetRefused();
        sheetBounds();
        row();
        Check.end("PointsEdgesTest");
    }

    private static void due(String call, long got, long want) {
        Check.due(call, got, want);
    }

    private static ReplayBooth happened(String text, int times) {
        return Check.happened(text, times);
    }

    // ---- promises 23 to 25

    private static void truth() {
        Check.sentence("truth: the call that they are by all their FRAMES (those that are OPEN or TORN as told)");
        ReplayBooth x = Check.told(ALL);
        due("s", x.truth(0), 1 + 2 + 16 + 64);
        due("t", x.truth(1), 0);
        ReplayBooth y = Check.told(HEAD + "limit 0;play p 1 k s 3 no" + IS_YES);
        due("as if there were no limit", y.truth(0), 3);
        y.next();
        y.challenge(0, 0);
        due("whatever happened", y.truth(0), 3);
        due("told nothing", Check.told("side s 1;").truth(0), 0);
    }

    private static void range() {
        Check.sentence("range: those that are OPEN or TORN so that they are the least");
        ReplayBooth x = Check.told(ALL);
        due("s", x.range(0, false), 1 + 2);
        due("t", x.range(1, false), 0);
        Check.sentence("range: (most: the greatest)");
        due("s", x.range(0, true), 1 + 2 + 16 + 32 + 64 + 99);
        due("t", x.range(1, true), 0);
        StringBuilder most = new StringBuilder(HEAD);
        for (char c = 'a'; c < 'i'; c++) {
            most.append("play x").append(c).append(" 1 k t 99 no;");
        }
        due("eight of 99", Check.told(most.toString()).range(1, true), 792);
        due("eight of 99, least", Check.told(most.toString()).range(1, false), 0);
    }

    private static void wrong() {
        Check.sentence("wrong: PLAYS (bits) the call of which, as told, is not what they are by all their FRAMES (YES, NO)");
        ReplayBooth x = Check.told(ALL);
        due("the second and the third", x.wrong(), 6);
        x.next();
        x.next();
        x.challenge(0, 1);
        due("as told", x.wrong(), 6);
        due("of a new object", new ReplayBooth().wrong(), 0);
        StringBuilder all = new StringBuilder(HEAD);
        for (char c = 'a'; c < 'i'; c++) {
            all.append("play x").append(c).append(" 1 k t 9 no").append(IS_YES);
        }
        due("all eight", Check.told(all.toString()).wrong(), 255);
    }

    private static void noneSuch() {
        Check.sentence("truth, range, left, need: NONE: none such");
        for (ReplayBooth x : new ReplayBooth[] {new ReplayBooth(), Check.told(ALL)}) {
            for (int none : Check.noneOf(x.count(2))) {
                due("truth " + none, x.truth(none), -1);
                due("range least " + none, x.range(none, false), -1);
                due("range most " + none, x.range(none, true), -1);
                due("left " + none, x.left(none), -1);
                due("need " + none, x.need(none), -1);
            }
        }
    }

    // ---- promises 26 and 27

    private static void left() {
        Check.sentence("left: POINTS behind all PLAYS, if nothing was challenged, nothing put to a BOARD");
        due("as told", Check.told(ALL).left(0), 1 + 4 + 16 + 64);
        due("all reviewed at once", Check.told(ALL + "last 1;").left(0), 1 + 2 + 16 + 64);
        due("none reviewed at once", Check.told(ALL + "last 2;").left(0), 1 + 4 + 16 + 64);
        due("reviewed as far as the limit lets", Check.told(ALL + "last 1;limit 19;").left(0), 1 + 4 + 16 + 64);
        due("by one frame, which is YES", Check.told(ALL + "last 1;limit 20;").left(0), 1 + 2 + 16 + 64);
        due("forced", Check.told(HEAD + "play p 1 f s 3 no" + IS_YES + "play q 1 k s 5 no" + IS_YES).left(0), 3);
        due("no play", Check.told(HEAD).left(0), 0);
    }

    private static void leftFromTheFirst() {
        Check.sentence("left: from the first one on");
        ReplayBooth x = happened(HEAD + "board c 1(a);play p 1 k s 3 no" + IS_YES + "play q 1 k s 5 no" + IS_YES, 2);
        x.challenge(0, 0);
        x.put(0, 1);
        due("s now", x.side(0, 3), 8);
        String before = Check.day(x);
        due("s", x.left(0), 0);
        Check.same("behind left", Check.day(x), before);
        due("t", x.left(1), 0);
        ReplayBooth y = happened(HEAD + "play p 1 f s 3 no" + IS_YES, 1);
        due("overturned at once", y.side(0, 3), 3);
        due("reviewed of its call as told", y.left(0), 3);
    }

    private static void needAgainst() {
        Check.sentence("need: the call of which is against it (its own told no, another SIDE's told yes)");
        String[] plays = {"k s 1 no", "k s 1 yes", "k t 1 no", "k t 1 yes"};
        int[] ofS = {1, 0, 0, 1};
        for (int i = 0; i < 4; i++) {
            ReplayBooth x = Check.told(HEAD + "play p 1 " + plays[i] + ";");
            due("s of " + plays[i], x.need(0), ofS[i]);
            due("t of " + plays[i], x.need(1), 1 - ofS[i]);
        }
        due("no play", Check.told(HEAD).need(0), 0);
    }

    private static void needAtOnce() {
        Check.sentence("need: each PLAY that is not REVIEWED at once");
        due("forced", Check.told(HEAD + "play p 1 f s 1 no;").need(0), 0);
        String two = HEAD + "play p 4 k s 1 no;play q 5 k s 1 no;";
        due("last 6", Check.told(two + "last 6;").need(0), 2);
        due("last 5", Check.told(two + "last 5;").need(0), 1);
        due("last 4", Check.told(two + "last 4;").need(0), 0);
    }

    /** PLAYS that s challenges: w is won, l lost. */
    private static String challenged(String letters) {
        StringBuilder out = new StringBuilder(HEAD);
        for (int i = 0; i < letters.length(); i++) {
            out.append("play x").append((char) ('a' + i)).append(" 1 k s 1 no");
            out.append(letters.charAt(i) == 'w' ? IS_YES : IS_NO);
        }
        return out.toString();
    }

    private static void needMost() {
        Check.sentence("need: The fewest CHALLENGES so that it never lacks one (0 to 9)");
        String[] plays = {"l", "w", "ll", "lw", "wl", "ww", "lwl", "wwl", "wlw", "lllllll", "llllllll", "lllllllw",
            "wlllllll", "wwwwwwww"};
        int[] needs = {1, 1, 2, 2, 1, 1, 2, 1, 2, 7, 8, 8, 7, 1};
        for (int i = 0; i < plays.length; i++) {
            due(plays[i], Check.told(challenged(plays[i])).need(0), needs[i]);
        }
        due("one that stands is gone, too", Check.told(challenged("ww") + "limit 19;").need(0), 2);
        due("the window does not matter", Check.told(challenged("lw") + "window 0;").need(0), 2);
    }

    private static void needBonus() {
        Check.sentence("need: a CHALLENGE more comes, if bonus is not 0 and divides WON");
        String[] plays = {"wl", "wll", "wlll", "wwll", "wwll", "wwlll", "wwwll", "lww", "lwwll", "wlwll",
            "wll", "wwll", "wwwll"};
        int[] bonus = {1, 1, 1, 1, 2, 2, 3, 2, 2, 2, 2, 3, 4};
        int[] needs = {1, 1, 2, 1, 1, 2, 1, 2, 2, 2, 2, 2, 2};
        for (int i = 0; i < plays.length; i++) {
            due(plays[i] + " bonus " + bonus[i], Check.told(challenged(plays[i]) + "bonus " + bonus[i] + ";").need(0),
                    needs[i]);
        }
        due("bonus 0", Check.told(challenged("wll") + "bonus 0;").need(0), 2);
    }

    private static void needAnew() {
        Check.sentence("need: must have at first, whatever has happened or was told it");
        ReplayBooth x = happened(challenged("llw") + "window 9;", 3);
        due("need", x.need(0), 3);
        x.challenge(0, 2);
        x.challenge(0, 0);
        String before = Check.day(x);
        due("need still", x.need(0), 3);
        Check.same("behind need", Check.day(x), before);
    }

    // ---- promises 28 and 29

    private static void seconds() {
        Check.sentence("seconds: NONE: no MINUTE from 0 to 999");
        ReplayBooth x = happened(HEAD + "play p 0 f s 1 no a 1;play q 999 f s 1 no a 1 a 1;", 2);
        due("minute 0", x.seconds(0), 20);
        due("minute 999", x.seconds(999), 40);
        due("minute 1, of no play", x.seconds(1), 0);
        due("minute 998, of no play", x.seconds(998), 0);
        for (int none : Check.noneOf(1000)) {
            due("minute " + none, x.seconds(none), -1);
            due("minute " + none + " of a new object", new ReplayBooth().seconds(none), -1);
        }
        due("minute 0 of a new object", new ReplayBooth().seconds(0), 0);
        due("minute 999 of a new object", new ReplayBooth().seconds(999), 0);
    }

    private static void secondsOfAll() {
        Check.sentence("seconds: of all REVIEWS of PLAYS of a MINUTE, so far");
        ReplayBooth x = Check.told("camera a 0 0;side s 9;kind f 7 forced 0 before 1;kind g 5 again 0 before 1;board c 1(a);"
                + "window 9;play p 3 g s 1 no" + IS_YES + "play q 4 f s 1 no a 1 a 1;play r 4 f s 1 no a 1;");
        int[] ofFour = {0, 0, 14, 21};
        for (int happened = 0; happened < 4; happened++) {
            due("minute 4 of " + happened, x.seconds(4), ofFour[happened]);
            x.next();
        }
        due("minute 3", x.seconds(3), 0);
        x.challenge(0, 0);
        due("minute 3", x.seconds(3), 5);
        due("minute 4 behind a re-start", x.seconds(4), 21);
        x.next();
        due("minute 4, q once more", x.seconds(4), 35);
        x.next();
        due("minute 4, r once more", x.seconds(4), 42);
        x.put(0, 2);
        due("a board takes none", x.seconds(4), 42);
        x.undo();
        x.undo();
        due("r undone", x.seconds(4), 35);
    }

    private static void secondsOfMost() {
        Check.sentence("RE-START: they can happen once more; CHALLENGES, WON, SECONDS stay");
        StringBuilder text = new StringBuilder("camera a 0 0;side s 1;limit 999;window 9;kind g 60 again 0 before 1;");
        for (char c = 'a'; c < 'h'; c++) {
            text.append("play x").append(c).append(" 999 g s 1 no").append(" a 1".repeat(9)).append(IS_YES);
        }
        ReplayBooth x = Check.told(text.toString());
        restartEach(x, 0, 7);
        due("seconds of 127 reviews of 600", x.seconds(999), 76200);
        due("whole minutes of them", x.extra(), 1270);
        due("won", x.side(0, 2), 127);
        due("left", x.side(0, 1), 1);
    }

    /** Each play from this one on is overturned behind all that can happen behind it, which begins again. */
    private static void restartEach(ReplayBooth x, int play, int plays) {
        if (play == plays) {
            return;
        }
        due("next", x.next(), 3);
        restartEach(x, play + 1, plays);
        due("challenge " + play, x.challenge(0, play), 2);
        restartEach(x, play + 1, plays);
    }

    private static void extra() {
        Check.sentence("extra: SECONDS in whole minutes of 60, rounded up");
        int[] seconds = {1, 59, 60, 15, 30, 41, 20};
        int[] frames = {1, 1, 1, 4, 2, 3, 6};
        int[] minutes = {1, 1, 1, 1, 1, 3, 2};
        for (int i = 0; i < seconds.length; i++) {
            String text = "camera a 0 0;side s 9;limit 999;kind f " + seconds[i] + " forced 0 before 1;play p 1 f s 1 no"
                    + " a 1".repeat(frames[i]) + ";";
            ReplayBooth x = Check.told(text);
            due("ahead of it", x.extra(), 0);
            x.next();
            due(seconds[i] * frames[i] + " seconds", x.extra(), minutes[i]);
        }
        due("0 seconds", happened(HEAD + "play p 1 f s 1 no;", 1).extra(), 0);
        due("600 seconds", happened("camera a 0 0;side s 9;limit 999;kind f 60 forced 0 before 1;play p 1 f s 1 no"
                + " a 1".repeat(10) + ";", 1).extra(), 10);
        due("of a new object", new ReplayBooth().extra(), 0);
    }

    private static void extraOfEach() {
        Check.sentence("extra: for each MINUTE, together");
        String head = "camera a 0 0;side s 9;kind f 20 forced 0 before 1;kind g 1 forced 0 before 1;";
        String three = " f s 1 no a 1 a 1 a 1;";
        ReplayBooth same = happened(head + "play p 7" + three + "play q 7 g s 1 no a 1;play r 8 g s 1 no a 1;", 2);
        due("60 and 1 of one minute", same.extra(), 2);
        same.next();
        due("1 of the next one", same.extra(), 3);
        ReplayBooth apart = happened(head + "play p 0" + three + "play q 7" + three + "play r 999" + three, 3);
        due("60 of three", apart.extra(), 3);
        ReplayBooth half = happened(head + "play p 7 f s 1 no a 1;play q 7 f s 1 no a 1;play r 8 f s 1 no a 1;", 3);
        due("40 and 20", half.extra(), 2);
    }

    // ---- promise 30

    private static void logRows() {
        Check.sentence("log: PLAY, SIDE that challenged, NONE: at once, 10 and more: put to BOARD 0 and more, outcome, SECONDS");
        ReplayBooth x = happened("camera a 0 0;side s 9;side t 9;side u 9;side v 9;kind k 7 0 before 1;"
                + "kind f 9 forced 0 before 1;window 9;board c 1(a);board d 2(a);board e 1(a);play p 1 f s 1 yes" + IS_YES
                + "play q 1 k s 1 no" + IS_YES + "play r 1 k s 1 no" + IS_OPEN, 3);
        x.challenge(3, 1);
        x.challenge(0, 2);
        x.put(2, 0);
        x.put(1, 1);
        x.put(0, 2);
        x.undo();
        x.undo();
        x.undo();
        x.undo();
        x.undo();
        x.put(2, 1);
        x.put(1, 2);
        int[][] rows = {{2, 11, 0, 0}, {1, 12, 2, 0}, {0, -1, 1, 9}};
        for (int ago = 0; ago < 3; ago++) {
            for (int what = 0; what < 4; what++) {
                due("log " + ago + " " + what, x.log(ago, what), rows[ago][what]);
            }
        }
        x.undo();
        x.undo();
        x.challenge(3, 1);
        x.challenge(0, 2);
        x.put(0, 0);
        int[][] others = {{0, 10, 0, 0}, {2, 0, 0, 7}, {1, 3, 2, 7}, {0, -1, 1, 9}};
        for (int ago = 0; ago < 4; ago++) {
            for (int what = 0; what < 4; what++) {
                due("log now " + ago + " " + what, x.log(ago, what), others[ago][what]);
            }
        }
    }

    private static void logNone() {
        Check.sentence("log: NoSuchElementException: others, none such");
        ReplayBooth x = happened(HEAD + "play p 1 f s 1 no;play q 1 f s 1 no;", 2);
        for (int none : Check.noneOf(2)) {
            Check.none("log " + none, () -> x.log(none, 0));
        }
        for (int none : Check.noneOf(4)) {
            Check.none("what " + none, () -> x.log(0, none));
            Check.none("what " + none + " of the oldest", () -> x.log(1, none));
        }
        due("the oldest", x.log(1, 0), 0);
        Check.none("of a new object", () -> new ReplayBooth().log(0, 0));
        x.undo();
        Check.none("undone", () -> x.log(1, 0));
        x.undo();
        Check.none("all undone", () -> x.log(0, 0));
    }

    /** Eight PLAYS REVIEWED at once, and all of them put: so many rows of them. */
    private static ReplayBooth rows(int rows) {
        StringBuilder text = new StringBuilder("camera a 0 0;side s 9;kind f 1 forced 0 before 1;board c 1(a);");
        for (char c = 'a'; c < 'i'; c++) {
            text.append("play x").append(c).append(" 1 f s 1 no a 1;");
        }
        ReplayBooth x = happened(text.toString(), Math.min(rows, 8));
        for (int play = 0; play < rows - 8; play++) {
            x.put(0, play);
        }
        return x;
    }

    private static void logSixteen() {
        Check.sentence("THE LOG has the latest 16 REVIEWS and puttings to BOARDS");
        ReplayBooth x = rows(15);
        due("15 rows", x.count(7), 15);
        Check.none("no 16th", () -> x.log(15, 0));
        x.put(0, 7);
        due("16 rows", x.count(7), 16);
        due("the oldest", x.log(15, 0), 0);
        due("its seconds", x.log(15, 3), 1);
        Check.none("no 17th", () -> x.log(16, 0));
        // the first play begins all again, so that there are more than sixteen
        StringBuilder text = new StringBuilder("camera a 0 0;side s 9;kind f 1 forced 0 before 1;kind g 2 again 0 before 1;"
                + "board c 1(a);window 9;play xx 1 g s 1 no" + IS_YES);
        for (char c = 'a'; c < 'h'; c++) {
            text.append("play x").append(c).append(" 1 f s 1 no a 1;");
        }
        ReplayBooth y = happened(text.toString(), 8);
        for (int play = 1; play < 8; play++) {
            y.put(0, play);
        }
        due("14 rows", y.count(7), 14);
        y.challenge(0, 0);
        for (int play = 1; play < 8; play++) {
            y.next();
            due("rows behind " + play, y.count(7), Math.min(16, 15 + play));
        }
        int[] plays = {7, 6, 5, 4, 3, 2, 1, 0, 7, 6, 5, 4, 3, 2, 1, 7};
        int[] bys = {-1, -1, -1, -1, -1, -1, -1, 0, 10, 10, 10, 10, 10, 10, 10, -1};
        for (int ago = 0; ago < 16; ago++) {
            due("play " + ago, y.log(ago, 0), plays[ago]);
            due("by " + ago, y.log(ago, 1), bys[ago]);
        }
        Check.none("no 17th", () -> y.log(16, 0));
        y.undo();
        due("undone, sixteen rows still", y.count(7), 16);
        due("the oldest, undone", y.log(15, 0), 6);
        for (int play = 6; play >= 1; play--) {
            y.undo();
        }
        due("undone, the ones that were too old are there again", y.count(7), 15);
        int[] undone = {0, 7, 6, 5, 4, 3, 2, 1, 7, 6, 5, 4, 3, 2, 1};
        for (int ago = 0; ago < 15; ago++) {
            due("play " + ago + ", undone", y.log(ago, 0), undone[ago]);
            due("seconds " + ago + ", undone", y.log(ago, 3), ago == 0 ? 2 : ago < 8 ? 0 : 1);
        }
    }

    // ---- promises 31 and 32

    private static void sheetKinds() {
        Check.sentence("sheet: as bytes, shorts (both the lowest bits, with their sign), ints");
        int[] each = {42, 32, 51, 60};
        int[] kinds = {0, 1, 2, 1, 3, 3};
        int[] frames = {3, 4, 5, 8, 10, 9};
        int[] bytes = {126, -128, -1, 0, 88, 28};
        int[] ints = {126, 128, 255, 256, 600, 540};
        StringBuilder text = new StringBuilder("camera a 0 0;side s 9;limit 999;");
        for (int k = 0; k < 4; k++) {
            text.append("kind k").append((char) ('a' + k)).append(' ').append(each[k]).append(" forced 0 before 1;");
        }
        for (int p = 0; p < 6; p++) {
            text.append("play x").append((char) ('a' + p)).append(" 1 k").append((char) ('a' + kinds[p])).append(" s 1 no")
                    .append(" a 1".repeat(frames[p])).append(';');
        }
        ReplayBooth x = happened(text.toString(), 6);
        for (int kind = 0; kind < 3; kind++) {
            due("sheet", x.sheet(kind, 0, 6), 6);
            for (int p = 0; p < 6; p++) {
                due("kind " + kind + " of " + ints[p], x.row(5 - p), kind == 0 ? bytes[p] : ints[p]);
            }
        }
    }

    private static void sheetRefused() {
        ReplayBooth x = rows(3);
        Check.sentence("sheet: -2: to is below from");
        for (int kind = 0; kind < 3; kind++) {
            due("from 1 to 0", x.sheet(kind, 1, 0), -2);
            due("from 3 to 2", x.sheet(kind, 3, 2), -2);
            due("from 4 to 3", x.sheet(kind, 4, 3), -2);
            due("from 0 to -1", x.sheet(kind, 0, -1), -2);
            due("from the greatest", x.sheet(kind, Integer.MAX_VALUE, 3), -2);
            due("to the lowest", x.sheet(kind, 0, Integer.MIN_VALUE), -2);
            due("from the greatest to the lowest", x.sheet(kind, Integer.MAX_VALUE, Integer.MIN_VALUE), -2);
        }
        due("of a new object", new ReplayBooth().sheet(0, 1, 0), -2);
        Check.sentence("sheet: NONE: others, from below 0, to above how many THE LOG has (these first)");
        for (int none : Check.noneOf(3)) {
            due("kind " + none, x.sheet(none, 0, 1), -1);
            due("kind " + none + ", to below from", x.sheet(none, 1, 0), -1);
        }
        for (int[] none : new int[][] {{-1, 0}, {-1, 3}, {-1, -2}, {Integer.MIN_VALUE, 1}, {Integer.MIN_VALUE, -2147483647},
            {0, 4}, {4, 4}, {5, 4}, {0, Integer.MAX_VALUE}, {Integer.MAX_VALUE, Integer.MAX_VALUE}, {-1, 4}}) {
            due("from " + none[0] + " to " + none[1], x.sheet(2, none[0], none[1]), -1);
        }
        due("of a new object", new ReplayBooth().sheet(0, 0, 1), -1);
        Check.sentence("sheet: THE ROW stays with -2, NONE");
        due("sheet", x.sheet(2, 1, 3), 2);
        due("to below from", x.sheet(2, 2, 1), -2);
        due("from below 0", x.sheet(2, -1, 1), -1);
        due("to above", x.sheet(2, 0, 4), -1);
        due("kind 3", x.sheet(3, 0, 0), -1);
        due("numbers", x.count(10), 2);
        due("the first", x.row(0), 1);
        due("the last", x.row(1), 1);
    }

    private static void sheetBounds() {
        Check.sentence("sheet: from from rows ago to, but without, to rows ago: how many");
        ReplayBooth x = happened("camera a 0 0;side s 9;limit 999;kind f 1 forced 0 before 1;play p 1 f s 1 no a 1;"
                + "play q 1 f s 1 no a 1 a 1;play r 1 f s 1 no a 1 a 1 a 1;", 3);
        for (int from = 0; from <= 3; from++) {
            for (int to = from; to <= 3; to++) {
                due("sheet " + from + " " + to, x.sheet(2, from, to), to - from);
                due("numbers", x.count(10), to - from);
                for (int i = 0; i < to - from; i++) {
                    due("row " + i, x.row(i), 3 - from - i);
                }
            }
        }
        due("none of none", new ReplayBooth().sheet(1, 0, 0), 0);
        ReplayBooth y = rows(16);
        due("all sixteen", y.sheet(0, 0, 16), 16);
        due("a board's", y.row(7), 0);
        due("the eighth review's", y.row(8), 1);
        due("the first review's", y.row(15), 1);
        due("one more", y.sheet(0, 0, 17), -1);
        due("the last one alone", y.sheet(0, 15, 16), 1);
        due("behind the last one", y.sheet(0, 16, 16), 0);
    }

    private static void row() {
        Check.sentence("row: empty at first; NoSuchElementException: none such");
        ReplayBooth x = rows(3);
        for (int none : Check.noneOf(0)) {
            Check.none("row " + none, () -> x.row(none));
            Check.none("row " + none + " of a new object", () -> new ReplayBooth().row(none));
        }
        x.sheet(2, 0, 3);
        for (int none : Check.noneOf(3)) {
            Check.none("row of three " + none, () -> x.row(none));
        }
        due("the last", x.row(2), 1);
        x.sheet(2, 0, 1);
        Check.none("row 1 of one", () -> x.row(1));
        x.sheet(2, 1, 1);
        Check.none("row 0 of none", () -> x.row(0));
        Check.sentence("row: it stays, whatever is told, UNDONE");
        x.sheet(2, 0, 2);
        x.keep(0, false);
        x.undo();
        x.undo();
        due("undone", x.count(10), 2);
        x.keep(0, true);
        due("gone back", x.count(10), 2);
        x.text(0);
        due("told", x.count(10), 2);
        x.text(-1);
        Check.tell(x, ".");
        due("told with a fault", x.count(10), 2);
        due("its first", x.row(0), 1);
        due("its last", x.row(1), 1);
        Check.none("none behind", () -> x.row(2));
    }
}
