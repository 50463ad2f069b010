/** What happens (part 3 of the Terms, promises 5 to 8 and 17 to 22) at its bounds, a sentence a test. */
public final class DayEdgesTest {
    private static final String HEAD = "camera a 0 0;camera b 0 0;side s 2;side t 1;kind k 20 0 before 1;"
            + "kind g 20 again 0 before 1;kind f 20 forced 0 before 1;";

    /** FRAMES by which a PLAY is YES, NO, OPEN, TORN, each looked at within the limit. */
    private static final String IS_YES = " a 5!0?1;";
    private static final String IS_NO = " a 5?0!1;";
    private static final String IS_OPEN = " a 5!0;";
    private static final String IS_TORN = " a 5!0 a 5?0;";

    public static void main(String[] args) {
        kind();
        side();
        points();
        play();
        frame();
        next();
        forced();
        last();
        challengeLeft();
        challengeHappened();
        challengeWindow();
        challengeReviewed();
        challengePut();
        challengeNone();
        won();
        bonus();
        nineAtMost();
        gone();
        restart();
        restartLeaves();
        restartIfAgain();
        restartByNext();
        put();
        putOnce();
        need();
        putBegins();
        comesBack();
        comesBackOfItsReview();
        comesBackSince();
        comesBackUndone();
        votes();
        pivot();
        boards();
        refused();
        Check.end("DayEdgesTest");
    }

    private static void due(String call, long got, long want) {
        Check.due(call, got, want);
    }

    /** PLAYS named xa, xb, .. of MINUTE 1, each with POINTS 1 and what is told behind these. */
    private static String plays(String kind, String side, String... tails) {
        StringBuilder out = new StringBuilder();
        for (int i = 0; i < tails.length; i++) {
            out.append("play x").append((char) ('a' + i)).append(" 1 ").append(kind).append(' ').append(side).append(" 1 ")
                    .append(tails[i]);
        }
        return out.toString();
    }

    private static String[] many(int count, String tail) {
        String[] all = new String[count];
        java.util.Arrays.fill(all, tail);
        return all;
    }

    private static ReplayBooth happened(String text, int times) {
        return Check.happened(text, times);
    }

    // ---- promises 5 to 8

    private static void kind() {
        Check.sentence("kind: NONE: others, none such");
        ReplayBooth x = Check.told(HEAD);
        for (int what = 0; what < 4; what++) {
            for (int none : Check.noneOf(3)) {
                due("kind " + none + " " + what, x.kind(none, what), -1);
            }
            due("of none", new ReplayBooth().kind(0, what), -1);
        }
        for (int none : Check.noneOf(4)) {
            due("what " + none, x.kind(0, none), -1);
        }
        Check.sentence("kind: 1 forced, 0 not; 1 again, 0 not; PAIRS, 1 to 3");
        ReplayBooth y = Check.told("kind w 1 0 before 1;kind x 60 forced 0 before 1 and 1 before 2;"
                + "kind y 2 again 0 before 1 and 0 before 1 and 0 before 1;kind z 3 forced again 3 before 2;"
                + "kind v 4 0 before 1;");
        int[][] kinds = {{1, 0, 0, 1}, {60, 1, 0, 2}, {2, 0, 1, 3}, {3, 1, 1, 1}, {4, 0, 0, 1}};
        for (int k = 0; k < 5; k++) {
            for (int what = 0; what < 4; what++) {
                due("kind " + k + " " + what, y.kind(k, what), kinds[k][what]);
            }
        }
        Check.tell(y, "kind w 1 0 before 1;kind x 1 0 before 1;kind y 1 0 before 1;kind z 1 0 before 1;");
        for (int k = 0; k < 4; k++) {
            due("told anew: forced " + k, y.kind(k, 1), 0);
            due("told anew: again " + k, y.kind(k, 2), 0);
            due("told anew: pairs " + k, y.kind(k, 3), 1);
        }
        due("told anew: kind 4", y.kind(4, 0), -1);
    }

    private static void side() {
        Check.sentence("side: NONE: others, none such");
        ReplayBooth x = Check.told(HEAD);
        for (int what = 0; what < 4; what++) {
            for (int none : Check.noneOf(2)) {
                due("side " + none + " " + what, x.side(none, what), -1);
            }
            due("of none", new ReplayBooth().side(0, what), -1);
        }
        for (int none : Check.noneOf(4)) {
            due("what " + none, x.side(0, none), -1);
        }
        due("side 3 of four", Check.told("side p 1;side q 2;side r 3;side s 9;").side(3, 1), 9);
    }

    private static void points() {
        Check.sentence("a PLAY that happened with the call yes has its POINTS for its SIDE");
        ReplayBooth x = Check.told(HEAD + "play p 1 k s 7 yes;play q 1 k t 0 yes;play r 1 k s 40 no;play o 1 k t 99 yes;");
        int[] ofS = {0, 7, 7, 7, 7};
        int[] ofT = {0, 0, 0, 0, 99};
        for (int happened = 0; happened <= 4; happened++) {
            due("s of " + happened, x.side(0, 3), ofS[happened]);
            due("t of " + happened, x.side(1, 3), ofT[happened]);
            x.next();
        }
        StringBuilder most = new StringBuilder(HEAD);
        for (char c = 'a'; c < 'i'; c++) {
            most.append("play x").append(c).append(" 1 k s 99 yes;");
        }
        due("eight of 99", happened(most.toString(), 8).side(0, 3), 792);
    }

    private static void play() {
        Check.sentence("play: NONE: others, none such");
        ReplayBooth x = Check.told(HEAD + plays("k", "s", "no;", "yes" + IS_TORN));
        for (int what = 0; what < 9; what++) {
            for (int none : Check.noneOf(2)) {
                due("play " + none + " " + what, x.play(none, what), -1);
            }
            due("of none", new ReplayBooth().play(0, what), -1);
        }
        for (int none : Check.noneOf(9)) {
            due("what " + none, x.play(0, none), -1);
        }
        Check.sentence("play: FRAMES, none too");
        due("no frames", x.play(0, 5), 0);
        due("two frames", x.play(1, 5), 2);
        Check.sentence("play: its call now (-2: it has not happened)");
        due("p has not", x.play(0, 6), -2);
        x.next();
        due("p has", x.play(0, 6), 0);
        due("q has not", x.play(1, 6), -2);
        x.next();
        due("q has", x.play(1, 6), 1);
        x.undo();
        due("q has not, undone", x.play(1, 6), -2);
        due("as told", x.play(1, 4), 1);
        Check.sentence("play: 1 it was REVIEWED, 0 not; 1 it was put to a BOARD, 0 not");
        ReplayBooth y = Check.told(HEAD + "board c 9(a);" + plays("k", "s", many(4, "no;")) + "play z 1 f s 1 no;window 9;");
        for (int i = 0; i < 5; i++) {
            due("not yet reviewed", y.play(i, 7), 0);
            due("not yet put", y.play(i, 8), 0);
            y.next();
        }
        y.challenge(0, 0);
        y.put(0, 0);
        y.challenge(0, 1);
        y.put(0, 2);
        int[] reviewed = {1, 1, 0, 0, 1};
        int[] put = {1, 0, 1, 0, 0};
        for (int i = 0; i < 5; i++) {
            due("reviewed " + i, y.play(i, 7), reviewed[i]);
            due("put " + i, y.play(i, 8), put[i]);
        }
    }

    private static void frame() {
        Check.sentence("frame: NoSuchElementException: others, none such");
        ReplayBooth x = Check.told(HEAD + plays("k", "s", "no;", "yes" + IS_TORN));
        for (int none : Check.noneOf(2)) {
            Check.none("frame " + none, () -> x.frame(none, 0, 0));
            Check.none("frame of play 1 " + none, () -> x.frame(1, none, 0));
        }
        for (int none : Check.noneOf(4)) {
            Check.none("what " + none, () -> x.frame(1, 0, none));
        }
        Check.none("of no frames", () -> x.frame(0, 0, 0));
        Check.none("of nothing", () -> new ReplayBooth().frame(0, 0, 0));
        Check.sentence("frame: MARKS with !, with ? (bits), none and all too");
        ReplayBooth y = Check.told(HEAD + plays("k", "s", "no a 0 b 999!0!1!2!3 a 1?0?1?2?3 b 2?3!0;"));
        int[][] frames = {{0, 0, 0, 0}, {1, 999, 15, 0}, {0, 1, 0, 15}, {1, 2, 1, 8}};
        for (int k = 0; k < 4; k++) {
            for (int what = 0; what < 4; what++) {
                due("frame " + k + " " + what, y.frame(0, k, what), frames[k][what]);
            }
        }
        Check.tell(y, HEAD + plays("k", "s", "no a 0 a 0 a 0 a 0;"));
        for (int k = 0; k < 4; k++) {
            due("told anew: there " + k, y.frame(0, k, 2), 0);
            due("told anew: not yet " + k, y.frame(0, k, 3), 0);
        }
    }

    // ---- promise 17

    private static void next() {
        Check.sentence("next: NONE: there is none more");
        due("of a new object", new ReplayBooth().next(), -1);
        due("of no plays", Check.told(HEAD).next(), -1);
        ReplayBooth x = happened(HEAD + plays("k", "s", many(8, "no;")), 7);
        due("the eighth", x.next(), 3);
        String before = Check.day(x);
        due("a ninth", x.next(), -1);
        due("once more", x.next(), -1);
        Check.same("behind the last", Check.day(x), before);
        due("of one", Check.told(HEAD + plays("k", "s", "no;")).next(), 3);
        Check.sentence("next: 3 it is not REVIEWED, else 0 it STANDS, 1 CONFIRMED, 2 OVERTURNED");
        ReplayBooth y = Check.told(HEAD + plays("f", "s", "no" + IS_OPEN, "yes" + IS_TORN, "no" + IS_NO, "yes" + IS_YES,
                "no" + IS_YES, "yes" + IS_NO) + "play z 1 k s 1 yes" + IS_NO);
        int[] answers = {0, 0, 1, 1, 2, 2, 3, -1};
        for (int answer : answers) {
            due("next", y.next(), answer);
        }
        Check.sentence("PLAYS that happen at once REVIEWED cost no CHALLENGE and win none");
        due("left", y.side(0, 1), 2);
        due("won", y.side(0, 2), 0);
    }

    private static void forced() {
        Check.sentence("It is REVIEWED at once, if its KIND is forced");
        ReplayBooth x = Check.told(HEAD + "play p 1 k s 1 no" + IS_YES + "play q 1 f s 1 no" + IS_YES);
        due("not forced", x.next(), 3);
        due("p not reviewed", x.play(0, 7), 0);
        due("forced", x.next(), 2);
        due("q reviewed", x.play(1, 7), 1);
        due("p still not", x.play(0, 7), 0);
    }

    private static void last() {
        Check.sentence("or its MINUTE is last or more");
        String[] lasts = {"last 5;", "last 0;", "last 999;", ""};
        int[][] minutes = {{4, 5, 6, 999}, {0, 0, 1, 999}, {0, 997, 998, 999}, {0, 1, 998, 999}};
        int[][] answers = {{3, 2, 2, 2}, {2, 2, 2, 2}, {3, 3, 3, 2}, {3, 3, 3, 3}};
        for (int i = 0; i < 4; i++) {
            StringBuilder text = new StringBuilder(HEAD + lasts[i]);
            for (int p = 0; p < 4; p++) {
                text.append("play x").append((char) ('a' + p)).append(' ').append(minutes[i][p]).append(" k s 1 no").append(IS_YES);
            }
            ReplayBooth x = Check.told(text.toString());
            for (int p = 0; p < 4; p++) {
                due(lasts[i] + " minute " + minutes[i][p], x.next(), answers[i][p]);
                due(lasts[i] + " reviewed " + minutes[i][p], x.play(p, 7), answers[i][p] == 3 ? 0 : 1);
            }
        }
    }

    // ---- promise 18

    private static void challengeLeft() {
        Check.sentence("A SIDE that has a CHALLENGE left can challenge");
        ReplayBooth x = happened("side u 0;" + HEAD + plays("k", "s", many(5, "no" + IS_NO)) + "window 9;", 5);
        due("told none", x.challenge(0, 0), -2);
        due("t's one", x.challenge(2, 0), 1);
        due("t has none left", x.challenge(2, 1), -2);
        due("s's first", x.challenge(1, 1), 1);
        due("s's second", x.challenge(1, 2), 1);
        due("s has none left", x.challenge(1, 3), -2);
        due("s left", x.side(1, 1), 0);
        due("t left", x.side(2, 1), 0);
        Check.sentence("a PLAY (of any SIDE)");
        ReplayBooth y = happened(HEAD + plays("k", "s", many(2, "no" + IS_NO)) + "window 9;", 2);
        due("its own", y.challenge(0, 0), 1);
        due("another's", y.challenge(1, 1), 1);
    }

    private static void challengeHappened() {
        Check.sentence("a PLAY that happened");
        ReplayBooth x = Check.told(HEAD + plays("k", "s", many(3, "no" + IS_NO)) + "window 9;");
        due("the next one", x.challenge(0, 0), -2);
        due("the last one", x.challenge(0, 2), -2);
        x.next();
        due("the one behind", x.challenge(0, 1), -2);
        due("the one that happened", x.challenge(0, 0), 1);
    }

    private static void challengeWindow() {
        Check.sentence("behind which so many PLAYS happened as window tells at most");
        for (int window = 0; window <= 9; window++) {
            ReplayBooth x = happened("side s 9;camera a 0 0;kind k 1 0 before 1;" + plays("k", "s", many(8, "no" + IS_NO))
                    + "window " + window + ";", 8);
            for (int play = 0; play < 8; play++) {
                due("window " + window + " play " + play, x.challenge(0, play), 7 - play <= window ? 1 : -2);
            }
        }
        for (int behind = 0; behind <= 2; behind++) {
            ReplayBooth x = happened(HEAD + plays("k", "s", many(3, "no" + IS_NO)), behind + 1);
            due("window without, behind it " + behind, x.challenge(0, 0), behind <= 1 ? 1 : -2);
        }
    }

    private static void challengeReviewed() {
        Check.sentence("which was neither REVIEWED");
        ReplayBooth x = happened(HEAD + plays("k", "s", "no" + IS_YES, "no" + IS_NO) + "play z 1 f s 1 no" + IS_OPEN
                + "play y 5 k s 1 no;last 5;window 9;", 4);
        due("overturned", x.challenge(0, 0), 2);
        due("by the same side again", x.challenge(0, 0), -2);
        due("by the other one again", x.challenge(1, 0), -2);
        due("confirmed", x.challenge(0, 1), 1);
        due("again", x.challenge(1, 1), -2);
        due("forced", x.challenge(1, 2), -2);
        due("of the last minutes", x.challenge(1, 3), -2);
        ReplayBooth none = happened(HEAD + plays("k", "s", "no" + IS_YES) + "limit 0;", 1);
        due("reviewed without a frame", none.challenge(0, 0), 0);
        due("is reviewed", none.challenge(0, 0), -2);
    }

    private static void challengePut() {
        Check.sentence("nor put to a BOARD");
        ReplayBooth x = happened(HEAD + "board c 1(a);board d 9(a);" + plays("k", "s", many(3, "no" + IS_YES)) + "window 9;", 3);
        due("put and overturned", x.put(0, 0), 1);
        due("challenged", x.challenge(0, 0), -2);
        due("put and not overturned", x.put(1, 1), 0);
        due("challenged", x.challenge(0, 1), -2);
        due("not put", x.challenge(0, 2), 2);
    }

    private static void challengeNone() {
        Check.sentence("challenge: NONE: none such");
        ReplayBooth x = happened(HEAD + plays("k", "s", "no" + IS_YES), 1);
        for (int none : Check.noneOf(2)) {
            due("side " + none, x.challenge(none, 0), -1);
            due("side " + none + ", no play", x.challenge(none, 1), -1);
        }
        for (int none : Check.noneOf(1)) {
            due("play " + none, x.challenge(0, none), -1);
        }
        due("of a new object", new ReplayBooth().challenge(0, 0), -1);
        due("a side without any, none such play", Check.told("side s 0;").challenge(0, 0), -1);
    }

    private static void won() {
        Check.sentence("If it is OVERTURNED, the CHALLENGE is kept, WON is one more");
        ReplayBooth x = happened(HEAD + plays("k", "s", many(8, "no" + IS_YES)) + "window 9;", 8);
        for (int play = 0; play < 8; play++) {
            due("challenge " + play, x.challenge(1, play), 2);
            due("left " + play, x.side(1, 1), 1);
            due("won " + play, x.side(1, 2), play + 1);
        }
        due("as told", x.side(1, 0), 1);
        due("not the other's", x.side(0, 2), 0);
        due("the other's left", x.side(0, 1), 2);
    }

    /** With a RE-START by the first PLAY a SIDE wins fifteen times. */
    private static void bonus() {
        Check.sentence("if bonus is not 0 and divides WON, one CHALLENGE more comes");
        String text = "camera a 0 0;side s 1;side t 1;kind k 1 0 before 1;kind g 1 again 0 before 1;window 9;"
                + "play o 1 g s 1 no" + IS_YES + plays("k", "s", many(7, "no" + IS_YES));
        for (int bonus = 0; bonus <= 9; bonus++) {
            ReplayBooth x = happened(text + "bonus " + bonus + ";", 8);
            int left = 1;
            for (int won = 1; won <= 15; won++) {
                if (won == 9) {
                    for (int i = 0; i < 7; i++) {
                        x.next();
                    }
                }
                due("bonus " + bonus + " won " + won, x.challenge(0, won == 8 ? 0 : won < 8 ? won : won - 8), 2);
                left = Math.min(9, left + (bonus != 0 && won % bonus == 0 ? 1 : 0));
                due("bonus " + bonus + " left " + won, x.side(0, 1), left);
            }
            due("won", x.side(0, 2), 15);
            due("the other's", x.side(1, 1), 1);
        }
    }

    private static void nineAtMost() {
        Check.sentence("CHALLENGES left are 9 at most (a bonus)");
        ReplayBooth x = happened("camera a 0 0;side s 8;kind k 1 0 before 1;window 9;bonus 1;"
                + plays("k", "s", many(4, "no" + IS_YES)) + "play z 1 k s 1 no" + IS_NO, 5);
        int[] left = {9, 9, 9, 9, 8};
        for (int play = 0; play < 5; play++) {
            x.challenge(0, play);
            due("left behind " + play, x.side(0, 1), left[play]);
        }
        due("won still", x.side(0, 2), 4);
        Check.sentence("CHALLENGES left are 9 at most (one that comes back)");
        ReplayBooth y = happened("camera a 0 0;side s 9;kind k 30 0 before 1;kind j 1 0 before 1;window 9;bonus 1;limit 30;"
                + "board c 1(a);play p 1 k s 1 no a 5!0 a 5?1;play q 1 j s 1 no" + IS_YES, 2);
        due("it stands", y.challenge(0, 0), 0);
        due("left", y.side(0, 1), 8);
        due("won", y.challenge(0, 1), 2);
        due("left", y.side(0, 1), 9);
        due("overturned", y.put(0, 0), 1);
        due("left", y.side(0, 1), 9);
    }

    private static void gone() {
        Check.sentence("else one is gone");
        String[] tails = {"no" + IS_OPEN, "no" + IS_TORN, "no" + IS_NO, "yes" + IS_YES};
        int[] answers = {0, 0, 1, 1};
        for (int i = 0; i < 4; i++) {
            ReplayBooth x = happened(HEAD + plays("k", "t", tails[i]) + "bonus 1;", 1);
            due("challenge", x.challenge(0, 0), answers[i]);
            due("left", x.side(0, 1), 1);
            due("won", x.side(0, 2), 0);
            due("the other's", x.side(1, 1), 1);
            due("its call", x.play(0, 6), x.play(0, 4));
            due("reviewed", x.play(0, 7), 1);
        }
    }

    // ---- a re-start

    private static void restart() {
        Check.sentence("a RE-START: PLAYS behind it have not happened (they were neither REVIEWED nor put to a BOARD)");
        ReplayBooth x = happened(HEAD + "board c 1(a);window 9;play p 1 g s 1 yes" + IS_NO + "play q 2 k s 1 no" + IS_YES
                + "play r 2 k s 1 no" + IS_YES + "play o 3 f s 1 no" + IS_YES, 4);
        due("q is overturned", x.challenge(1, 1), 2);
        due("r is put", x.put(0, 2), 1);
        due("points", x.side(0, 3), 4);
        due("p is overturned", x.challenge(1, 0), 2);
        due("happened", x.count(6), 1);
        due("points", x.side(0, 3), 0);
        for (int play = 1; play < 4; play++) {
            due("call of " + play, x.play(play, 6), -2);
            due("reviewed " + play, x.play(play, 7), 0);
            due("put " + play, x.play(play, 8), 0);
            due("look as told " + play, x.look(play, 0), 2);
            due("votes as told " + play, x.votes(0, play), 1);
            due("boards as told " + play, x.boards(play), 1);
            due("challenge " + play, x.challenge(0, play), -2);
            due("put " + play, x.put(0, play), -2);
        }
        Check.sentence("they can happen once more");
        due("q", x.next(), 3);
        due("its call as told", x.play(1, 6), 0);
        due("q is overturned again", x.challenge(1, 1), 2);
        due("r", x.next(), 3);
        due("r is put again", x.put(0, 2), 1);
        due("o is reviewed again", x.next(), 2);
        due("none more", x.next(), -1);
        due("points", x.side(0, 3), 3);
    }

    private static void restartLeaves() {
        Check.sentence("a RE-START: CHALLENGES, WON, SECONDS, THE LOG stay");
        ReplayBooth x = happened(HEAD + "board c 1(a);window 9;play o 1 k s 8 no" + IS_YES + "play p 1 g s 1 yes" + IS_NO
                + "play q 2 k s 1 no" + IS_NO + "play r 2 f s 1 no" + IS_YES + "play u 3 k s 1 no" + IS_YES, 5);
        x.challenge(0, 2);
        x.put(0, 4);
        x.put(0, 0);
        due("p is overturned", x.challenge(1, 1), 2);
        due("happened", x.count(6), 2);
        due("s left", x.side(0, 1), 1);
        due("t won", x.side(1, 2), 1);
        due("seconds of minute 2", x.seconds(2), 40);
        due("rows", x.count(7), 5);
        int[] plays = {1, 0, 4, 2, 3};
        for (int ago = 0; ago < 5; ago++) {
            due("row " + ago, x.log(ago, 0), plays[ago]);
        }
        due("the one ahead of it has happened", x.play(0, 6), 1);
        due("and was put", x.play(0, 8), 1);
        due("p has happened", x.play(1, 6), 0);
        due("and was reviewed", x.play(1, 7), 1);
        due("points", x.side(0, 3), 8);
        Check.sentence("a RE-START: PLAYS ahead of it stay as they are");
        ReplayBooth y = happened(HEAD + "board c 1(a);window 9;" + plays("k", "s", many(4, "no" + IS_YES))
                + "play z 1 g s 1 no" + IS_YES + "play y 1 k s 1 no;", 6);
        y.challenge(0, 0);
        y.put(0, 1);
        due("z is overturned", y.challenge(0, 4), 2);
        int[] calls = {1, 1, 0, 0, 1, -2};
        int[] reviewed = {1, 0, 0, 0, 1, 0};
        int[] boarded = {0, 1, 0, 0, 0, 0};
        for (int play = 0; play < 6; play++) {
            due("call of " + play, y.play(play, 6), calls[play]);
            due("reviewed " + play, y.play(play, 7), reviewed[play]);
            due("put " + play, y.play(play, 8), boarded[play]);
        }
        due("one that was neither can be challenged", y.challenge(0, 2), 2);
        due("one that was neither can be put", y.put(0, 3), 1);
    }

    private static void restartIfAgain() {
        Check.sentence("OVERTURNED by a REVIEW, if its KIND is again");
        String behind = "play q 1 k s 1 no;play r 1 k s 1 no;window 9;board c 1(a);";
        String[] plays = {"play p 1 g s 1 no" + IS_YES, "play p 1 k s 1 no" + IS_YES, "play p 1 g s 1 no" + IS_NO,
            "play p 1 g s 1 no" + IS_OPEN, "play p 1 g s 1 no" + IS_TORN};
        int[] answers = {2, 2, 1, 0, 0};
        for (int i = 0; i < 5; i++) {
            ReplayBooth x = happened(HEAD + plays[i] + behind, 3);
            due(plays[i], x.challenge(0, 0), answers[i]);
            due("happened behind " + plays[i], x.count(6), i == 0 ? 1 : 3);
        }
        ReplayBooth x = happened(HEAD + behind + "play u 1 g s 1 no" + IS_YES, 3);
        due("the last one", x.challenge(0, 2), 2);
        due("nothing is behind it", x.count(6), 3);
    }

    private static void restartByNext() {
        Check.sentence("a PLAY REVIEWED at once has none behind it");
        ReplayBooth x = Check.told("camera a 0 0;side s 1;kind g 5 forced again 0 before 1;window 9;"
                + plays("g", "s", many(3, "no" + IS_YES)));
        for (int play = 0; play < 3; play++) {
            due("next", x.next(), 2);
            due("happened", x.count(6), play + 1);
            due("its call", x.play(play, 6), 1);
        }
        due("none more", x.next(), -1);
    }

    // ---- promise 19

    private static void put() {
        Check.sentence("A PLAY that happened can be put to a BOARD");
        ReplayBooth x = Check.told(HEAD + "board c 1(a);" + plays("k", "s", many(2, "no" + IS_YES)));
        due("not yet", x.put(0, 0), -2);
        x.next();
        due("the one behind", x.put(0, 1), -2);
        due("now", x.put(0, 0), 1);
        Check.sentence("put: NONE: none such");
        for (int none : Check.noneOf(1)) {
            due("board " + none, x.put(none, 1), -1);
        }
        for (int none : Check.noneOf(2)) {
            due("play " + none, x.put(0, none), -1);
        }
        due("no board", happened(HEAD + plays("k", "s", "no;"), 1).put(0, 0), -1);
        due("of a new object", new ReplayBooth().put(0, 0), -1);
        due("far behind what happened, none such board", x.put(1, 0), -1);
        Check.sentence("put: however long ago it happened, REVIEWED or not");
        ReplayBooth y = happened(HEAD + "board c 1(a);window 0;play z 1 f s 1 no" + IS_YES
                + plays("k", "s", many(7, "no" + IS_YES)), 8);
        due("seven behind it, reviewed", y.put(0, 0), 0);
        due("six behind it", y.put(0, 1), 1);
    }

    private static void putOnce() {
        Check.sentence("once in all");
        ReplayBooth x = happened(HEAD + "board c 1(a);board d 9(a);" + plays("k", "s", many(2, "no" + IS_YES)), 2);
        due("overturned", x.put(0, 0), 1);
        due("to the same board", x.put(0, 0), -2);
        due("to the other board", x.put(1, 0), -2);
        due("not overturned", x.put(1, 1), 0);
        due("to the same board", x.put(1, 1), -2);
        due("to the other board", x.put(0, 1), -2);
        due("the first one still", x.put(0, 0), -2);
        due("its call", x.play(1, 6), 0);
        x.undo();
        due("undone it can be once more", x.put(0, 1), 1);
    }

    private static void need() {
        Check.sentence("With NEED votes at least the call is OVERTURNED");
        for (int need = 1; need <= 9; need++) {
            for (int votes = 0; votes <= 7; votes++) {
                StringBuilder members = new StringBuilder();
                for (int m = 0; m < 7; m++) {
                    members.append(m < votes ? "(a)" : "(b)");
                }
                ReplayBooth x = happened(HEAD + "board c " + need + members + ";" + plays("k", "s", "no" + IS_YES), 1);
                int turned = votes >= need ? 1 : 0;
                due(votes + " of " + need, x.put(0, 0), turned);
                due("its call", x.play(0, 6), turned);
                due("the log", x.log(0, 2), 2 * turned);
                due("put", x.play(0, 8), 1);
            }
        }
    }

    private static void putBegins() {
        Check.sentence("by a BOARD OVERTURNED: no RE-START");
        ReplayBooth x = happened(HEAD + "board c 1(a);play p 1 g s 1 no" + IS_YES + "play q 1 k s 1 no;", 2);
        due("overturned", x.put(0, 0), 1);
        due("happened", x.count(6), 2);
        due("not reviewed", x.play(0, 7), 0);
        due("no seconds", x.seconds(1), 0);
        due("nobody won", x.side(0, 2) + x.side(1, 2), 0);
    }

    private static final String LIMITED = "camera a 0 0;side s 2;side t 1;kind k 30 0 before 1;limit 30;window 9;"
            + "board c 1(a);board d 2(a);";

    private static void comesBack() {
        Check.sentence("if a CHALLENGE was gone by its REVIEW, it comes back to that SIDE");
        for (int side = 0; side < 2; side++) {
            ReplayBooth x = happened(LIMITED + plays("k", "t", "no a 5!0 a 5?1;"), 1);
            due("it stands", x.challenge(side, 0), 0);
            due("gone", x.side(side, 1), 1 - side);
            due("overturned", x.put(0, 0), 1);
            due("s", x.side(0, 1), 2);
            due("t", x.side(1, 1), 1);
            due("won none", x.side(side, 2), 0);
            due("undone", x.undo(), 2);
            due("gone again", x.side(side, 1), 1 - side);
            due("once more", x.put(0, 0), 1);
            due("back again", x.side(side, 1), 2 - side);
        }
        Check.sentence("it comes back if the BOARD has OVERTURNED the call");
        ReplayBooth y = happened(LIMITED + plays("k", "s", "no a 5!0 a 5?1;"), 1);
        y.challenge(0, 0);
        due("one vote of two", y.put(1, 0), 0);
        due("not back", y.side(0, 1), 1);
    }

    private static void comesBackOfItsReview() {
        Check.sentence("gone by its REVIEW, not by another one's; not one that was kept");
        ReplayBooth x = happened(LIMITED + plays("k", "s", "no a 5!0 a 5?1;", "no a 5!0 a 5?1;"), 2);
        due("p stands", x.challenge(0, 0), 0);
        due("q is put", x.put(0, 1), 1);
        due("left", x.side(0, 1), 1);
        // by the first frame it is YES, by b alone it is NO, so that a board takes back what a review gave
        ReplayBooth y = happened("camera a 0 0;camera b 5 9;side s 2;kind k 9 0 before 1;board c 1(b);"
                + "play p 1 k s 1 no a 5!0?1 b 20?0!1;", 1);
        due("overturned", y.challenge(0, 0), 2);
        due("left", y.side(0, 1), 2);
        due("overturned by b", y.put(0, 0), 1);
        due("left", y.side(0, 1), 2);
        ReplayBooth z = happened(LIMITED + "kind f 30 forced 0 before 1;play p 1 f s 1 no a 5!0 a 5?1;", 1);
        due("reviewed at once", z.put(0, 0), 1);
        due("nobody's came back", z.side(0, 1) + z.side(1, 1), 3);
    }

    private static void comesBackSince() {
        Check.sentence("(since it happened last)");
        ReplayBooth x = happened(LIMITED + "kind g 1 again 1 before 0;play o 1 g s 1 yes a 5!0?1;"
                + "play p 1 k s 5 no a 5!0 a 5?1;", 2);
        due("p stands", x.challenge(0, 1), 0);
        due("o begins again", x.challenge(1, 0), 2);
        x.next();
        due("p is put", x.put(0, 1), 1);
        due("not back", x.side(0, 1), 1);
        x.undo();
        due("p stands again", x.challenge(0, 1), 0);
        due("none left", x.side(0, 1), 0);
        due("p is put", x.put(0, 1), 1);
        due("one is back", x.side(0, 1), 1);
        for (int i = 0; i < 4; i++) {
            x.undo();
        }
        due("undone to ahead of o's challenge", x.count(6), 2);
        due("left", x.side(0, 1), 1);
        due("p is put", x.put(0, 1), 1);
        due("the first one is back", x.side(0, 1), 2);
    }

    private static void comesBackUndone() {
        Check.sentence("a CHALLENGE whose REVIEW is UNDONE, or gone back from, does not come back");
        ReplayBooth x = happened(LIMITED + plays("k", "s", "no a 5!0 a 5?1;"), 1);
        x.keep(0, false);
        due("it stands", x.challenge(0, 0), 0);
        x.keep(1, false);
        due("undone", x.undo(), 1);
        due("put", x.put(0, 0), 1);
        due("none comes", x.side(0, 1), 2);
        x.keep(1, true);
        due("gone, gone back to", x.side(0, 1), 1);
        due("put", x.put(0, 0), 1);
        due("it comes back", x.side(0, 1), 2);
        x.keep(0, true);
        due("put", x.put(0, 0), 1);
        due("none comes", x.side(0, 1), 2);
    }

    // ---- promises 20 to 22

    private static void votes() {
        Check.sentence("votes against, if by these it is YES or NO, but not as the call is");
        String[] tails = {"no" + IS_YES, "yes" + IS_YES, "no" + IS_NO, "yes" + IS_NO, "no" + IS_OPEN, "yes" + IS_OPEN,
            "no" + IS_TORN, "yes" + IS_TORN};
        int[] votes = {1, 0, 0, 1, 0, 0, 0, 0};
        ReplayBooth x = Check.told(HEAD + "board c 1(a)(b);" + plays("k", "s", tails));
        for (int play = 0; play < 8; play++) {
            due("votes as told " + play, x.votes(0, play), votes[play]);
            x.next();
            due("votes now " + play, x.votes(0, play), votes[play]);
            due("put " + play, x.put(0, play), votes[play]);
            due("votes behind " + play, x.votes(0, play), 0);
        }
        Check.sentence("a MEMBER looks at all FRAMES of its CAMERAS");
        ReplayBooth y = Check.told(HEAD + "limit 0;board c 9(a)(b)(a b)(b a)(b b)(a a b);"
                + plays("k", "s", "no a 5!0 b 3 b 5?1 a 9;", "no b 5!0?1 a 5!1;"));
        due("both are needed", y.votes(0, 0), 4 + 8 + 32);
        due("torn by both", y.votes(0, 1), 2 + 16);
        Check.sentence("votes: NONE: none such");
        for (int none : Check.noneOf(1)) {
            due("board " + none, y.votes(none, 0), -1);
        }
        for (int none : Check.noneOf(2)) {
            due("play " + none, y.votes(0, none), -1);
        }
        due("of a new object", new ReplayBooth().votes(0, 0), -1);
    }

    private static void pivot() {
        Check.sentence("pivot: without the vote of each of whom alone it would not be OVERTURNED, though it is with all");
        int[] pivots = {0, 0, 7, 0, 0};
        for (int need = 1; need <= 5; need++) {
            ReplayBooth x = Check.told(HEAD + "board c " + need + "(a)(a b)(a)(b);" + plays("k", "s", "no" + IS_YES, "no;"));
            due("three votes, need " + need, x.pivot(0, 0), pivots[need - 1]);
            due("no vote, need " + need, x.pivot(0, 1), 0);
            x.next();
            x.put(0, 0);
            due("behind a board of need " + need, x.pivot(0, 0), need <= 3 ? 0 : pivots[need - 1]);
        }
        due("one of one", Check.told(HEAD + "board c 1(b)(a);" + plays("k", "s", "no" + IS_YES)).pivot(0, 0), 2);
        Check.sentence("pivot: NONE: none such");
        ReplayBooth y = Check.told(HEAD + "board c 1(a);" + plays("k", "s", "no;"));
        for (int none : Check.noneOf(1)) {
            due("board " + none, y.pivot(none, 0), -1);
            due("play " + none, y.pivot(0, none), -1);
        }
        due("of a new object", new ReplayBooth().pivot(0, 0), -1);
    }

    private static void boards() {
        Check.sentence("boards: BOARDS (bits) that would overturn the call of a PLAY now (as told, if it has not happened)");
        ReplayBooth x = Check.told(HEAD + "board c 2(a)(a b);board d 3(a)(a b)(b);board e 1(b)(a);"
                + plays("k", "s", "no" + IS_YES, "yes" + IS_YES, "yes" + IS_NO, "no" + IS_OPEN));
        int[] boards = {5, 0, 5, 0};
        for (int play = 0; play < 4; play++) {
            due("as told " + play, x.boards(play), boards[play]);
        }
        x.next();
        due("now", x.boards(0), 5);
        x.challenge(0, 0);
        due("behind a challenge", x.boards(0), 0);
        due("no boards", Check.told(HEAD + plays("k", "s", "no" + IS_YES)).boards(0), 0);
        boardsBehindABoard();
        Check.sentence("boards: NONE: none such");
        for (int none : Check.noneOf(4)) {
            due("play " + none, x.boards(none), -1);
        }
        due("of a new object", new ReplayBooth().boards(0), -1);
    }

    private static void boardsBehindABoard() {
        Check.sentence("votes, pivot, boards: would .. now: of a PLAY that was put to a BOARD, too");
        ReplayBooth x = happened(HEAD + "board c 1(a);board d 1(b);board e 2(a);"
                + plays("k", "s", "no a 5!0?1 b 5?0!1;"), 1);
        due("ahead", x.boards(0), 1);
        due("put to the one that does not overturn", x.put(2, 0), 0);
        due("boards", x.boards(0), 1);
        due("votes", x.votes(0, 0), 1);
        due("pivot", x.pivot(0, 0), 1);
        due("it can't be put once more", x.put(0, 0), -2);
        x.undo();
        due("put to the one that overturns", x.put(0, 0), 1);
        due("boards, against the call now", x.boards(0), 2);
        due("votes, against the call now", x.votes(1, 0), 1);
        due("pivot, against the call now", x.pivot(1, 0), 1);
        Check.sentence("votes, pivot, boards: would .. now: of a PLAY that was REVIEWED, too");
        ReplayBooth y = happened(HEAD + "limit 0;board c 1(a);" + plays("k", "s", "no" + IS_YES), 1);
        due("it stands", y.challenge(0, 0), 0);
        due("boards", y.boards(0), 1);
        due("votes", y.votes(0, 0), 1);
        due("pivot", y.pivot(0, 0), 1);
    }

    // ---- refused calls

    private static void refused() {
        ReplayBooth x = happened(HEAD + "board c 9(a);" + plays("k", "s", many(4, "no" + IS_NO)) + "window 1;", 3);
        x.challenge(1, 2);
        x.put(0, 1);
        String before = Check.day(x);
        Check.sentence("a refused challenge changes nothing and is no ACT");
        int[][] challenges = {{0, 0}, {0, 1}, {0, 2}, {0, 3}, {1, 1}, {2, 0}, {-1, 0}, {0, 4}, {0, -1}};
        for (int[] c : challenges) {
            due("challenge " + c[0] + " " + c[1], x.challenge(c[0], c[1]) < 0 ? 1 : 0, 1);
        }
        Check.same("behind refused challenges", Check.day(x), before);
        Check.sentence("a refused put changes nothing and is no ACT");
        int[][] puts = {{0, 1}, {0, 3}, {1, 0}, {-1, 0}, {0, 4}, {0, -1}};
        for (int[] p : puts) {
            due("put " + p[0] + " " + p[1], x.put(p[0], p[1]) < 0 ? 1 : 0, 1);
        }
        Check.same("behind refused puttings", Check.day(x), before);
        due("the latest act is the last one that could be", x.undo(), 4);
        due("it was the put", x.play(1, 8), 0);
        due("the challenge is left", x.play(2, 7), 1);
    }
}
