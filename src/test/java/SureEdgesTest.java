/** What FRAMES make sure of (part 2 of the Terms, promises 4 and 9 to 16) at its bounds, a sentence a test. */
public final class SureEdgesTest {
    /** The clock of a is sure, that of b is late by 1 to 3; d is a KIND that can never be. */
    private static final String HEAD = "camera a 0 0;camera b 1 3;side s 2;kind k 20 0 before 1;"
            + "kind d 20 0 before 1 and 1 before 0;";
    private static final String PLAY = HEAD + "play p 1 k s 1 no ";

    private static final int NO = 0;
    private static final int YES = 1;
    private static final int OPEN = 2;
    private static final int TORN = 3;

    /**
     * Ten FRAMES of five clocks that are late by nobody knows how much: 0 is ahead of 1 by those of
     * a and b, 2 of 3 by those of c and d, 3 of 1 by those of e, each clock told of by two FRAMES.
     */
    private static final String TEN = "camera a 0 999;camera b 0 999;camera c 0 999;camera d 0 999;camera e 0 999;"
            + "side s 1;kind k 1 0 before 1 and 2 before 3 and 3 before 1;play p 1 k s 1 no "
            + "a 16!0 a 10?2 b 10!2 b 19?1 c 10!2 c 13?0 d 14!0 d 10?3 e 10!3 e 10?1;";

    public static void main(String[] args) {
        lateOfATick();
        there();
        notYet();
        flashes();
        yes();
        no();
        pairs();
        torn();
        marksOfAPlay();
        latesOfAQuestion();
        camera();
        cameraTorn();
        cameraNone();
        verdict();
        by();
        gapBounds();
        gapAnswers();
        fewest();
        key();
        enough();
        mend();
        ofNoPlay();
        tenFrames();
        reviewOfNone();
        reviewLimit();
        reviewEnds();
        reviewStands();
        look();
        Check.end("SureEdgesTest");
    }

    private static void due(String call, long got, long want) {
        Check.due(call, got, want);
    }

    /** What a PLAY is by all of these FRAMES. */
    private static void is(String frames, int verdict) {
        ReplayBooth x = Check.told(PLAY + frames + ";");
        due(frames, x.verdict(0, x.play(0, 5)), verdict);
    }

    // ---- part 2 of the terms

    private static void lateOfATick() {
        Check.sentence("its clock is LATE by so many ticks at least, at most");
        is("b 10!0 a 8?0", OPEN);
        is("b 10!0 a 9?0", TORN);
        is("b 10?0 a 8!0", OPEN);
        is("b 10?0 a 7!0", TORN);
        Check.sentence("Tick t of a CAMERA is the moment t less its LATE");
        is("b 10!0 a 9?1", YES);
        is("b 11!0 a 9?1", OPEN);
        is("b 10!0 b 10?1", YES);
        is("b 10!0 b 9?1", OPEN);
        ReplayBooth x = Check.told(PLAY + "a 0!0 a 1?1;play q 1 k s 1 no b 0!0 b 0?1;");
        due("moments below 0", x.verdict(1, 2), YES);
        due("ticks from 0 on", x.gap(0, 0, 1, false), 2);
    }

    private static void there() {
        Check.sentence("a MARK with ! is there: its moment is not behind that of the tick");
        is("a 10!0 a 9?0", OPEN);
        is("a 10!0 a 10?0", TORN);
        is("a 10!0 a 10!1 a 9?1", OPEN);
        ReplayBooth x = Check.told(PLAY + "a 10!0 a 9?0 a 10!1 a 9?1;");
        due("both at 10", x.gap(0, 0, 1, false), 0);
        due("both at 10, most", x.gap(0, 0, 1, true), 0);
    }

    private static void notYet() {
        Check.sentence("one with ? is not there yet: it is behind it");
        is("a 10?0 a 11!0", OPEN);
        is("a 10?0 a 10!0", TORN);
        is("a 11?0 a 10!0", TORN);
        ReplayBooth x = Check.told(PLAY + "a 10!0 a 9?0 a 10?1 a 11!1;");
        due("10 and 11", x.gap(0, 0, 1, false), 1);
        due("10 and 11, most", x.gap(0, 0, 1, true), 1);
    }

    private static void flashes() {
        Check.sentence("Both ticks of a FLASH are one moment");
        int[] lates = {-2, 1, 2, 3, -2};
        for (int i = 0; i < 5; i++) {
            for (String flash : new String[] {"flash a 10 b " + (10 + i), "flash b " + (10 + i) + " a 10"}) {
                ReplayBooth x = Check.told(HEAD + flash + ";");
                due(flash + " least", x.camera(1, 2), lates[i]);
                due(flash + " most", x.camera(1, 3), lates[i]);
            }
        }
        Check.sentence("FLASHES always count");
        String sure = "play p 1 k s 1 no a 10!0 b 12?1;";
        due("without", Check.told(HEAD + sure).verdict(0, 2), OPEN);
        due("told ahead", Check.told(HEAD + "flash a 10 b 11;" + sure).verdict(0, 2), YES);
        due("told behind", Check.told(HEAD + sure + "flash a 10 b 11;").verdict(0, 2), YES);
        ReplayBooth two = Check.told(HEAD + sure + "flash a 10 b 11;flash a 20 b 22;");
        due("two that differ, no frame", two.verdict(0, 0), TORN);
        due("two that differ, no camera", two.by(0, 0), TORN);
        due("two alike", Check.told(HEAD + "flash a 10 b 11;flash b 21 a 20;" + sure).verdict(0, 2), YES);
    }

    private static void yes() {
        Check.sentence("YES, if in all that can be all PAIRS of its KIND hold (ahead: not at once)");
        is("a 10!0 a 10?1", YES);
        is("a 10!0 a 9?1", OPEN);
        is("a 10!0 a 11?1", YES);
        is("a 10!0 b 13?1", YES);
        is("a 10!0 b 12?1", OPEN);
        is("b 11!0 a 10?1", YES);
        is("b 12!0 a 10?1", OPEN);
    }

    private static void no() {
        Check.sentence("NO, if in none they all hold, else OPEN");
        is("a 10?0 a 11!1", NO);
        is("a 10?0 a 12!1", OPEN);
        is("a 10?0 a 10!1", NO);
        is("a 10?0 b 12!1", NO);
        is("a 10?0 b 13!1", OPEN);
        is("b 13?0 a 11!1", NO);
        is("b 12?0 a 11!1", OPEN);
        is("b 13?0 a 12!1", OPEN);
        is("b 14?0 a 12!1", NO);
        is("", OPEN);
        is("a 10!2?3", OPEN);
    }

    private static void pairs() {
        Check.sentence("all PAIRS of its KIND");
        String head = "camera a 0 0;side s 1;kind k 1 0 before 1 and 1 before 2 and 2 before 3;play p 1 k s 1 no ";
        String[] frames = {"a 1!0?1 a 2!1?2 a 3!2?3;", "a 1!0?1 a 2!1?2 a 3!2;", "a 1!0?1 a 3!2?3;", "a 2!1?2 a 3!2?3;",
            "a 1!0?1 a 2!1?2 a 3!3;", "a 1?0 a 2!1;", "a 1?0 a 4!3;", "a 1?0 a 5!3;", "a 1?0 a 3!2;", "a 1?0 a 4!2;"};
        int[] verdicts = {YES, OPEN, OPEN, OPEN, NO, NO, NO, OPEN, NO, OPEN};
        for (int i = 0; i < frames.length; i++) {
            ReplayBooth x = Check.told(head + frames[i]);
            due(frames[i], x.verdict(0, x.play(0, 5)), verdicts[i]);
        }
        ReplayBooth never = Check.told(HEAD + "play p 1 d s 1 no;");
        due("pairs that can never be", never.verdict(0, 0), NO);
    }

    private static void torn() {
        Check.sentence("TORN, if no moments, LATES can be so");
        is("a 10!0 a 10?0", TORN);
        is("a 10!0 b 11?0", OPEN);
        is("a 10!0 b 13?0", TORN);
        is("a 10!0 b 12?0", OPEN);
        is("a 10!2 b 13?2", TORN);
        is("a 9?2 b 12!2 a 20!3 b 21?3", OPEN);
        is("a 9?2 b 12!2 a 20!3 b 22?3", TORN);
        is("a 10?2 b 12!2 a 20!3 b 21?3", TORN);
        ReplayBooth never = Check.told(HEAD + "play p 1 d s 1 no a 10!2 a 10?2;");
        due("torn, though no pairs can be", never.verdict(0, 2), TORN);
        due("no, if not torn", never.verdict(0, 1), NO);
    }

    private static void marksOfAPlay() {
        Check.sentence("MARKS of one PLAY are none of another's");
        ReplayBooth x = Check.told(PLAY + "a 10!0;play q 1 k s 1 no a 10?1;play r 1 k s 1 no a 10?0 a 10!1;");
        due("p", x.verdict(0, 1), OPEN);
        due("q", x.verdict(1, 1), OPEN);
        due("r is not torn by them", x.verdict(2, 2), NO);
        due("p again", x.verdict(0, 1), OPEN);
        due("gap of q", x.gap(1, 0, 1, false), 1000000);
    }

    private static void latesOfAQuestion() {
        Check.sentence("LATES are told anew for each question");
        String sure = "a 12?2 b 14!2";
        ReplayBooth x = Check.told(PLAY + sure + ";play q 1 k s 1 no a 10!0 b 11?1;play r 1 k s 1 no a 10!0 b 11?1 "
                + sure + ";");
        due("p makes the clock sure", x.verdict(0, 2), OPEN);
        due("not for q", x.verdict(1, 2), OPEN);
        due("r by its own", x.verdict(2, 4), YES);
        due("q still", x.verdict(1, 2), OPEN);
        due("the clock least", x.camera(1, 2), 1);
        due("the clock most", x.camera(1, 3), 3);
    }

    // ---- promise 4

    private static void camera() {
        Check.sentence("camera: what 2, 3: likewise by all CAMERAS and FLASHES");
        ReplayBooth x = Check.told("camera a 5 10;camera b 0 999;camera c 0 9;flash a 100 b 300;flash c 7 b 206;"
                + "camera d 3 4;");
        int[][] lates = {{5, 10, 5, 8}, {0, 999, 205, 208}, {0, 9, 6, 9}, {3, 4, 3, 4}};
        for (int camera = 0; camera < 4; camera++) {
            for (int what = 0; what < 4; what++) {
                due("camera " + camera + " " + what, x.camera(camera, what), lates[camera][what]);
            }
        }
        ReplayBooth wide = Check.told("camera a 0 999;camera b 0 999;flash a 0 b 999;");
        due("late by 0", wide.camera(0, 3), 0);
        due("late by 999", wide.camera(1, 2), 999);
    }

    private static void cameraTorn() {
        Check.sentence("camera: -2 (2, 3): no LATES can be so");
        ReplayBooth x = Check.told("camera a 0 0;camera b 1 3;camera c 4 6;flash a 10 b 14;");
        for (int camera = 0; camera < 3; camera++) {
            due("as told, least", x.camera(camera, 0), new int[] {0, 1, 4}[camera]);
            due("as told, most", x.camera(camera, 1), new int[] {0, 3, 6}[camera]);
            due("least", x.camera(camera, 2), -2);
            due("most", x.camera(camera, 3), -2);
        }
        ReplayBooth ring = Check.told("camera a 0 9;camera b 0 9;camera c 0 9;flash a 1 b 1;flash b 1 c 1;flash c 1 a 2;");
        due("a ring of flashes", ring.camera(0, 2), -2);
    }

    private static void cameraNone() {
        Check.sentence("camera: NONE: others, none such");
        for (String text : new String[] {"", "camera a 0 0;camera b 1 3;", "camera a 0 0;camera b 1 3;flash a 10 b 14;"}) {
            ReplayBooth x = Check.told(text);
            int cameras = text.isEmpty() ? 0 : 2;
            for (int what = 0; what < 4; what++) {
                for (int none : Check.noneOf(cameras)) {
                    due("camera " + none + " " + what, x.camera(none, what), -1);
                }
            }
            for (int none : Check.noneOf(4)) {
                due("what " + none, x.camera(0, none), -1);
            }
        }
        due("camera 4 of five", Check.told("camera a 1 1;camera b 1 1;camera c 1 1;camera d 1 1;camera e 2 2;").camera(4, 3),
                2);
    }

    // ---- promises 9 to 11

    private static void verdict() {
        Check.sentence("verdict: by its first n FRAMES");
        ReplayBooth x = Check.told(PLAY + "a 10!0 a 5 a 10?1 a 9!1;");
        int[] verdicts = {OPEN, OPEN, OPEN, YES, TORN};
        for (int n = 0; n <= 4; n++) {
            due("verdict " + n, x.verdict(0, n), verdicts[n]);
        }
        Check.sentence("verdict: NONE: none such, not so many");
        for (int none : Check.noneOf(5)) {
            due("frames " + none, x.verdict(0, none), -1);
        }
        for (int none : Check.noneOf(1)) {
            due("play " + none, x.verdict(none, 0), -1);
        }
        ReplayBooth bare = Check.told(PLAY + ";play q 1 k s 1 no a 1;");
        due("none of none", bare.verdict(0, 0), OPEN);
        due("one of none, though q has it", bare.verdict(0, 1), -1);
        due("32 is not 0", bare.verdict(0, 32), -1);
    }

    private static void by() {
        Check.sentence("by: Likewise by its FRAMES of some CAMERAS (bits)");
        ReplayBooth x = Check.told(PLAY + "b 9!0 a 9?1 b 20?1 a 9!1;");
        int[] verdicts = {OPEN, TORN, YES, TORN};
        for (int cameras = 0; cameras < 4; cameras++) {
            due("by " + cameras, x.by(0, cameras), verdicts[cameras]);
        }
        Check.sentence("by: NONE: none such, bits of CAMERAS that there are not");
        for (int bit = 2; bit < 32; bit++) {
            due("bit " + bit, x.by(0, 1 << bit), -1);
            due("bits 0 and " + bit, x.by(0, 1 | 1 << bit), -1);
        }
        due("all bits", x.by(0, -1), -1);
        for (int none : Check.noneOf(1)) {
            due("play " + none, x.by(none, 0), -1);
        }
        ReplayBooth bare = Check.told("side s 1;kind k 1 0 before 1;play p 1 k s 1 no;");
        due("none of no cameras", bare.by(0, 0), OPEN);
        due("one of no cameras", bare.by(0, 1), -1);
        due("all five", Check.told(TEN).by(0, 31), YES);
        due("a sixth", Check.told(TEN).by(0, 32), -1);
    }

    private static void gapBounds() {
        Check.sentence("gap: the least (most: the greatest) that the moment of MARK b less that of MARK a can be");
        ReplayBooth x = Check.told(PLAY + "a 10?0 a 13!0 b 20?1 b 21!1;");
        int[][] gaps = {{0, 0}, {5, 9}};
        for (int b = 0; b < 2; b++) {
            due("least from 0 to " + b, x.gap(0, 0, b, false), gaps[b][0]);
            due("most from 0 to " + b, x.gap(0, 0, b, true), gaps[b][1]);
            due("least to 0 from " + b, x.gap(0, b, 0, false), -gaps[b][1]);
            due("most to 0 from " + b, x.gap(0, b, 0, true), -gaps[b][0]);
        }
        String far = "camera a 0 0;camera b 999 999;side s 1;kind k 1 0 before 1;play p 1 k s 1 no "
                + "b 0?0 b 1!0 a 998?1 a 999!1;";
        ReplayBooth y = Check.told(far);
        due("as far as can be", y.gap(0, 0, 1, false), 1997);
        due("as far as can be, back", y.gap(0, 1, 0, true), -1997);
        due("pairs do not count", Check.told(PLAY + "a 10?0!1 a 11!0;").gap(0, 0, 1, true), -1);
        due("a pair that would bound it", Check.told(PLAY + "a 10!1;").gap(0, 0, 1, false), 1000000);
    }

    private static void gapAnswers() {
        ReplayBooth x = Check.told(PLAY + "a 10!0 a 11?1;play q 1 k s 1 no a 10!0 a 10?0;");
        Check.sentence("gap: 1000000: there is no least, greatest");
        due("no greatest", x.gap(0, 0, 1, true), 1000000);
        due("but a least", x.gap(0, 0, 1, false), 2);
        due("no least back", x.gap(0, 1, 0, false), 1000000);
        due("but a greatest", x.gap(0, 1, 0, true), -2);
        due("marks that none has seen", x.gap(0, 2, 3, false), 1000000);
        due("one that none has seen", x.gap(0, 0, 3, true), 1000000);
        due("less itself", x.gap(0, 3, 3, false), 0);
        due("less itself, most", x.gap(0, 3, 3, true), 0);
        Check.sentence("gap: 2000000: it is TORN");
        for (int a = 0; a < 4; a++) {
            for (int b = 0; b < 4; b++) {
                due("torn " + a + " " + b, x.gap(1, a, b, a < b), 2000000);
            }
        }
        Check.sentence("gap: 3000000: none such (a, b 0 to 3)");
        for (int none : Check.noneOf(4)) {
            due("a " + none, x.gap(0, none, 1, false), 3000000);
            due("b " + none, x.gap(0, 1, none, true), 3000000);
            due("a " + none + " of a torn one", x.gap(1, none, 1, false), 3000000);
            due("b " + none + " of a torn one", x.gap(1, 1, none, false), 3000000);
        }
        for (int none : Check.noneOf(2)) {
            due("play " + none, x.gap(none, 0, 1, false), 3000000);
        }
    }

    // ---- promises 12 to 15

    private static void fewest() {
        Check.sentence("fewest: The fewest FRAMES (bits; of as few the least number)");
        due("none at all", Check.told(HEAD + "play p 1 d s 1 no a 5!0 a 6!1;").fewest(0), 0);
        due("the one, not the two ahead of it", Check.told(PLAY + "a 5!0 a 5?1 a 4!0?1;").fewest(0), 4);
        due("of two ones the first", Check.told(PLAY + "a 3 a 4!0?1 a 5!0?1;").fewest(0), 2);
        due("of two twos the first", Check.told(PLAY + "a 5!0 a 4!0 a 5?1 a 6?1;").fewest(0), 5);
        due("the first and the last, not the last two", Check.told(PLAY + "b 6!0 a 1!2 a 1?3 a 5!0 a 5?1;").fewest(0), 17);
        due("of a NO", Check.told(PLAY + "a 5!0 a 5?0 a 6!1;play q 1 k s 1 no a 5?0 a 6!1;").fewest(1), 3);
        Check.sentence("fewest: -2: that is OPEN or TORN");
        ReplayBooth x = Check.told(PLAY + "a 5!0;play q 1 k s 1 no a 5!0?1 a 5!1;play r 1 k s 1 no;");
        due("open", x.fewest(0), -2);
        due("torn, though yes by the first", x.fewest(1), -2);
        due("open without frames", x.fewest(2), -2);
        due("open once more", x.fewest(0), -2);
        due("torn by flashes", Check.told(HEAD + "flash a 1 b 9;play p 1 d s 1 no;").fewest(0), -2);
    }

    private static void key() {
        Check.sentence("key: FRAMES (bits) without each of which alone it is OPEN");
        due("both", Check.told(PLAY + "a 5!0 a 5?1;").key(0), 3);
        due("one of three", Check.told(PLAY + "a 5!0 a 5?1 a 6?1;").key(0), 1);
        due("none of two", Check.told(PLAY + "a 5!0?1 a 5!0?1;").key(0), 0);
        due("none of none", Check.told(HEAD + "play p 1 d s 1 no;").key(0), 0);
        due("of a NO", Check.told(PLAY + "a 1 a 5?0 a 6!1;").key(0), 6);
        Check.sentence("key: -2 likewise (OPEN or TORN)");
        ReplayBooth x = Check.told(PLAY + "a 5!0;play q 1 k s 1 no a 5!0?1 a 5!1;play r 1 k s 1 no;");
        due("open", x.key(0), -2);
        due("torn", x.key(1), -2);
        due("open without frames", x.key(2), -2);
    }

    private static void enough() {
        Check.sentence("enough: The fewest CAMERAS (bits; of as few the least number)");
        due("none at all", Check.told(HEAD + "play p 1 d s 1 no a 5!0 b 6!1;").enough(0), 0);
        due("of no cameras", Check.told("side s 1;kind d 1 0 before 1 and 1 before 0;play p 1 d s 1 no;").enough(0), 0);
        due("the second", Check.told(PLAY + "a 5!0 b 4!0?1;").enough(0), 2);
        due("of two the first", Check.told(PLAY + "b 5!0?1 a 5!0?1;").enough(0), 1);
        due("both", Check.told(PLAY + "a 5!0 b 8?1;").enough(0), 3);
        String three = "camera c 0 0;play p 1 k s 1 no ";
        due("the third, not the two ahead", Check.told(HEAD + three + "a 5!0 b 8?1 c 5!0?1;").enough(0), 4);
        due("a and c, not a and b", Check.told(HEAD + three + "a 5!0 c 5?1 b 5!0;").enough(0), 5);
        Check.sentence("enough: -2 likewise (OPEN or TORN)");
        ReplayBooth x = Check.told(PLAY + "a 5!0;play q 1 k s 1 no a 5!0?1 b 5!1;play r 1 k s 1 no;");
        due("open", x.enough(0), -2);
        due("torn", x.enough(1), -2);
        due("open without frames", x.enough(2), -2);
    }

    private static void mend() {
        Check.sentence("mend: The fewest FRAMES (bits; of as few the least number) to be left out");
        due("one of two", Check.told(PLAY + "a 4!0 a 4?0;").mend(0), 1);
        due("the one against two", Check.told(PLAY + "a 4!0 a 4!0 a 4?0;").mend(0), 4);
        due("two of four", Check.told(PLAY + "a 4!0 a 5!0 a 5?0 a 6?0;").mend(0), 3);
        due("apart", Check.told(PLAY + "a 4!0 a 4!1 a 4?0 a 4?1;").mend(0), 3);
        due("five of ten", Check.told(PLAY + "a 4!0 a 4?0 a 4!0 a 4?0 a 4!0 a 4?0 a 4!0 a 4?0 a 4!0 a 4?0;").mend(0),
                1 + 4 + 16 + 64 + 256);
        due("the last of ten", Check.told(PLAY + "a 4!0 a 4!0 a 4!0 a 4!0 a 4!0 a 4!0 a 4!0 a 4!0 a 4!0 a 4?0;").mend(0),
                512);
        Check.sentence("mend: 0: it is not TORN");
        ReplayBooth x = Check.told(PLAY + "a 4!0?1;play q 1 k s 1 no a 4!0;play r 1 k s 1 no;play o 1 d s 1 no a 4!0;");
        for (int play = 0; play < 4; play++) {
            due("mend " + play, x.mend(play), 0);
        }
        Check.sentence("mend: -2: it is without any, too");
        ReplayBooth y = Check.told(PLAY + "a 4!0 a 4?0;play q 1 k s 1 no;flash a 1 b 9;");
        due("torn by flashes and frames", y.mend(0), -2);
        due("torn by flashes", y.mend(1), -2);
        due("once more", y.mend(0), -2);
    }

    private static void ofNoPlay() {
        Check.sentence("fewest, key, enough, mend: NONE: none such");
        for (ReplayBooth x : new ReplayBooth[] {new ReplayBooth(), Check.told(PLAY + "a 5!0?1;"), Check.told(TEN)}) {
            for (int none : Check.noneOf(x.count(5))) {
                due("fewest " + none, x.fewest(none), -1);
                due("key " + none, x.key(none), -1);
                due("enough " + none, x.enough(none), -1);
                due("mend " + none, x.mend(none), -1);
            }
        }
        Check.sentence("fewest, mend: of the TEXT from now on");
        ReplayBooth x = Check.told(PLAY + "a 5!0 a 5?1;");
        due("two", x.fewest(0), 3);
        due("not torn", x.mend(0), 0);
        due("a fault", Check.tell(x, PLAY + "a 5!0?1;."), -2 - (8 * (PLAY.length() + 8) + 1));
        due("still two", x.fewest(0), 3);
        due("told anew", Check.tell(x, PLAY + "a 5!0?1 a 5!1;"), 1);
        due("torn", x.fewest(0), -2);
        due("to be left out", x.mend(0), 1);
        due("told anew", Check.tell(x, PLAY + "a 5!0?1;"), 1);
        due("one", x.fewest(0), 1);
        due("not torn", x.mend(0), 0);
    }

    private static void tenFrames() {
        Check.sentence("10 FRAMES of each: all ten count");
        ReplayBooth x = Check.told(TEN);
        due("by nine", x.verdict(0, 9), OPEN);
        due("by ten", x.verdict(0, 10), YES);
        due("by eleven", x.verdict(0, 11), -1);
        due("fewest", x.fewest(0), 1023);
        due("key", x.key(0), 1023);
        due("enough", x.enough(0), 31);
        due("mend", x.mend(0), 0);
        for (int camera = 0; camera < 5; camera++) {
            due("without camera " + camera, x.by(0, 31 & ~(1 << camera)), OPEN);
        }
    }

    // ---- reviews, promise 16

    private static void looks(String text, int outcome, int seconds, int frames) {
        ReplayBooth x = Check.told(text);
        due("outcome of " + text, x.look(0, 0), outcome);
        due("seconds of " + text, x.look(0, 1), seconds);
        due("frames of " + text, x.look(0, 2), frames);
    }

    private static void reviewOfNone() {
        Check.sentence("A REVIEW: it ends as soon as by those looked at (none at first) it is not OPEN");
        looks(HEAD + "play p 1 d s 1 no a 1!0;", 1, 0, 0);
        looks(HEAD + "play p 1 d s 1 yes a 1!0;", 2, 0, 0);
        looks(HEAD + "play p 1 d s 1 yes;limit 0;", 2, 0, 0);
        looks(HEAD + "play p 1 k s 1 yes a 1!0;flash a 1 b 9;", 0, 0, 0);
        looks(PLAY + ";", 0, 0, 0);
    }

    private static void reviewLimit() {
        Check.sentence("A REVIEW: it ends ahead of a FRAME with which they would take more than limit");
        String three = PLAY + "a 1 a 10!0 a 10?1;";
        looks(three, 2, 60, 3);
        looks(three + "limit 60;", 2, 60, 3);
        looks(three + "limit 59;", 0, 40, 2);
        looks(three + "limit 40;", 0, 40, 2);
        looks(three + "limit 39;", 0, 20, 1);
        looks(three + "limit 20;", 0, 20, 1);
        looks(three + "limit 19;", 0, 0, 0);
        looks(three + "limit 0;", 0, 0, 0);
        looks(three + "limit 61;", 2, 60, 3);
        String ten = "camera a 0 0;side s 1;kind k 60 0 before 1;play p 1 k s 1 yes "
                + "a 1 a 1 a 1 a 1 a 1 a 1 a 1 a 1 a 1!0 a 1?1;";
        looks(ten + "limit 999;", 1, 600, 10);
        looks(ten + "limit 600;", 1, 600, 10);
        looks(ten + "limit 599;", 0, 540, 9);
        looks(ten, 0, 60, 1);
        looks(ten + "limit 59;", 0, 0, 0);
        looks("camera a 0 0;side s 1;kind k 1 0 before 1;play p 1 k s 1 no a 1 a 1!0?1;limit 1;", 0, 1, 1);
    }

    private static void reviewEnds() {
        Check.sentence("A REVIEW: its FRAMES one by one, as told; it ends as soon as it is not OPEN");
        looks(PLAY + "a 1 a 10!0?1 a 10!1 a 2;limit 999;", 2, 40, 2);
        looks(PLAY + "a 10!0 a 10?0 a 10?1 a 2;limit 999;", 0, 40, 2);
        looks(PLAY + "a 10?0 a 11!1 a 2;limit 999;", 1, 40, 2);
    }

    private static void reviewStands() {
        Check.sentence("If it is YES or NO then, the call is CONFIRMED, if it is that, else OVERTURNED; else it STANDS");
        String yes = HEAD + "play p 1 k s 1 yes ";
        looks(yes + "a 10!0?1;", 1, 20, 1);
        looks(PLAY + "a 10!0?1;", 2, 20, 1);
        looks(yes + "a 10?0 a 11!1;", 2, 40, 2);
        looks(PLAY + "a 10?0 a 11!1;", 1, 40, 2);
        looks(yes + "a 10!0;", 0, 20, 1);
        looks(PLAY + "a 10!0;", 0, 20, 1);
        looks(yes + "a 10!0 a 10?0;", 0, 40, 2);
        looks(PLAY + "a 10!0 a 10?0;", 0, 40, 2);
    }

    private static void look() {
        Check.sentence("look: of its call now; as told, if it has not happened");
        ReplayBooth x = Check.told(PLAY + "a 10!0?1;board c 1(a);play q 1 k s 1 no;");
        due("as told", x.look(0, 0), 2);
        x.next();
        due("of its call no", x.look(0, 0), 2);
        x.put(0, 0);
        due("of its call yes", x.look(0, 0), 1);
        due("seconds", x.look(0, 1), 20);
        x.undo();
        due("of its call no again", x.look(0, 0), 2);
        x.challenge(0, 0);
        due("of a reviewed one", x.look(0, 0), 1);
        x.undo();
        x.undo();
        due("as told again", x.look(0, 0), 2);
        Check.sentence("look: nothing changes");
        String before = Check.day(x);
        for (int what = -1; what < 4; what++) {
            x.look(0, what);
        }
        Check.same("behind look", Check.day(x), before);
        Check.sentence("look: NONE: others, none such");
        for (int what = 0; what < 3; what++) {
            for (int none : Check.noneOf(2)) {
                due("look " + none + " " + what, x.look(none, what), -1);
            }
        }
        for (int none : Check.noneOf(3)) {
            due("what " + none, x.look(0, none), -1);
        }
    }
}
