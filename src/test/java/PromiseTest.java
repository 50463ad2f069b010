/** Each promise by hand: ordinary calls, the edges that the document names, calls for none such. */
public final class PromiseTest {
    /**
     * The clocks: a is late 0 to 2, b 5, and a flash makes a's 1. By the frames p is yes (told no),
     * q yes (told yes, reviewed at once), r no (told yes).
     */
    private static final String THREE = "camera a 0 2;camera b 5 5;flash a 10 b 14;side s 1;side t 2;"
            + "kind k 20 0 before 1;kind f 30 forced again 0 before 1 and 1 before 2;board c 1(a)(a b);bonus 1;"
            + "play p 3 k s 7 no a 10!0 a 11?1;play q 3 f t 2 yes a 10!0?1 b 20!1?2 a 30!2;"
            + "play r 5 k t 4 yes a 10!1 b 20?0;";

    /** Of one camera without doubt; p is yes, q torn, r open, o no. */
    private static final String FOUR = "camera a 0 0;side s 2;side t 0;kind k 20 0 before 1;"
            + "play p 1 k s 5 yes a 10!0 a 11?1;play q 2 k s 30 no a 4!0 a 4?0;play r 2 k t 1 yes a 5!0;"
            + "play o 4 k t 8 yes a 9!1 a 9?0;";

    public static void main(String[] args) {
        newObject();
        feed();
        text();
        textKeepsAndForgets();
        camera();
        kindAndSide();
        play();
        frame();
        verdict();
        verdictOfPairs();
        by();
        gap();
        fewest();
        fewestOfAsFew();
        keyAndEnough();
        mend();
        look();
        next();
        challenge();
        challengeOfWindow();
        bonus();
        restart();
        put();
        comesBack();
        votes();
        truth();
        left();
        need();
        seconds();
        log();
        sheet();
        undo();
        keep();
        keepIsACopy();
        count();
        Check.end("PromiseTest");
    }

    private static void due(String call, long got, long want) {
        Check.due(call, got, want);
    }

    private static void nexts(ReplayBooth x, int times) {
        for (int i = 0; i < times; i++) {
            x.next();
        }
    }

    // ---- 1 to 8

    private static void newObject() {
        ReplayBooth x = new ReplayBooth();
        for (int what = 0; what <= 10; what++) {
            due("new: count " + what, x.count(what), 0);
        }
        due("new: limit", x.count(11), 60);
        due("new: bonus", x.count(12), 0);
        due("new: last", x.count(13), 1000);
        due("new: window", x.count(14), 1);
        due("new: camera", x.camera(0, 0), -1);
        due("new: kind", x.kind(0, 0), -1);
        due("new: side", x.side(0, 0), -1);
        due("new: play", x.play(0, 0), -1);
        Check.none("new: frame", () -> x.frame(0, 0, 0));
        due("new: verdict", x.verdict(0, 0), -1);
        due("new: by", x.by(0, 0), -1);
        due("new: gap", x.gap(0, 0, 0, true), 3000000);
        due("new: fewest", x.fewest(0), -1);
        due("new: next", x.next(), -1);
        due("new: challenge", x.challenge(0, 0), -1);
        due("new: put", x.put(0, 0), -1);
        due("new: truth", x.truth(0), -1);
        due("new: wrong", x.wrong(), 0);
        due("new: need", x.need(0), -1);
        due("new: seconds", x.seconds(0), 0);
        due("new: extra", x.extra(), 0);
        Check.none("new: log", () -> x.log(0, 0));
        Check.none("new: row", () -> x.row(0));
        due("new: undo", x.undo(), -1);
        Check.due("new: keep 0 back", x.keep(0, true), false);
        Check.due("new: keep 1", x.keep(1, false), true);
        Check.due("new: keep 1 back", x.keep(1, true), true);
    }

    private static void feed() {
        ReplayBooth x = new ReplayBooth();
        // "side s 3;" and blanks: each number's highest byte comes first
        due("feed", x.feed(0x73696465, 0x20732033, 0x3b202020, 0x20202020, 0x20202020), 20);
        due("text", x.text(20), 0);
        due("side", x.side(0, 0), 3);
        for (int i = 1; i <= 30; i++) {
            due("feed " + i, x.feed(0x20202020, 0x20202020, 0x20202020, 0x20202020, 0x20202020), 20 * i);
        }
        due("feed above 600", x.feed(0, 0, 0, 0, 0), -1);
        due("bytes", x.count(9), 600);
        due("text above 600", x.text(601), -1);
        due("text of 600", x.text(600), 0);
        due("bytes then", x.count(9), 0);
        due("feed negative ones", x.feed(-1, -1, -1, -1, -1), 20);
        due("byte 255", x.text(20), -2 - 1);
    }

    private static void text() {
        ReplayBooth x = new ReplayBooth();
        due("three plays", Check.tell(x, THREE), 3);
        due("the tape is empty", x.count(9), 0);
        due("text 1", x.text(1), -1);
        Check.feed(x, "side s 1;side t 1;");
        due("n below 0", x.text(-1), -1);
        due("n above", x.text(21), -1);
        due("lowest n", x.text(Integer.MIN_VALUE), -1);
        due("greatest n", x.text(Integer.MAX_VALUE), -1);
        due("the tape stays", x.count(9), 20);
        due("the first bytes alone", x.text(9), 0);
        due("sides", x.count(2), 1);
        due("plays", x.count(5), 0);
        due("the rest is gone", x.count(9), 0);
        due("nothing is a text", x.text(0), 0);
        due("sides then", x.count(2), 0);
    }

    private static void textKeepsAndForgets() {
        ReplayBooth x = Check.told(THREE + "limit 70;last 9;window 3;");
        nexts(x, 2);
        x.keep(0, false);
        x.sheet(2, 0, 1);
        due("a fault", Check.tell(x, "limit 5;limit"), -2 - (8 * 8 + 5));
        due("limit stays", x.count(11), 70);
        due("plays stay", x.count(5), 3);
        due("what happened stays", x.count(6), 2);
        due("acts stay", x.count(8), 2);
        due("the log stays", x.count(7), 1);
        due("verdicts stay", x.verdict(0, 2), 1);
        Check.due("the keep stays", x.keep(0, true), true);
        x.undo();
        due("told anew", Check.tell(x, FOUR), 4);
        due("nothing has happened", x.count(6), 0);
        due("nothing can be undone", x.undo(), -1);
        due("the log", x.count(7), 0);
        due("seconds", x.seconds(3), 0);
        due("left", x.side(0, 1), 2);
        due("limit without", x.count(11), 60);
        due("bonus without", x.count(12), 0);
        due("last without", x.count(13), 1000);
        due("window without", x.count(14), 1);
        Check.due("nothing is kept", x.keep(0, true), false);
        due("the row stays", x.row(0), 60);
        due("flashes are gone", x.count(1), 0);
        due("boards are gone", x.count(4), 0);
    }

    private static void camera() {
        ReplayBooth x = Check.told(THREE);
        due("least as told", x.camera(0, 0), 0);
        due("most as told", x.camera(0, 1), 2);
        due("least by all", x.camera(0, 2), 1);
        due("most by all", x.camera(0, 3), 1);
        due("b least", x.camera(1, 2), 5);
        due("what 4", x.camera(0, 4), -1);
        due("what -1", x.camera(0, -1), -1);
        due("camera 2", x.camera(2, 0), -1);
        due("camera -1", x.camera(-1, 2), -1);
        ReplayBooth chain = Check.told("camera a 0 9;camera b 2 8;camera c 0 999;flash a 3 b 5;flash b 1 c 11;");
        due("a by a chain", chain.camera(0, 2), 0);
        due("a by a chain", chain.camera(0, 3), 6);
        due("b by a chain", chain.camera(1, 2), 2);
        due("b by a chain", chain.camera(1, 3), 8);
        due("c by a chain", chain.camera(2, 2), 12);
        due("c by a chain", chain.camera(2, 3), 18);
        ReplayBooth torn = Check.told("camera a 0 1;camera b 5 6;flash a 3 b 5;");
        due("torn as told", torn.camera(1, 1), 6);
        due("torn least", torn.camera(0, 2), -2);
        due("torn most", torn.camera(1, 3), -2);
        due("torn, none such", torn.camera(2, 3), -1);
        due("torn, what 4", torn.camera(0, 4), -1);
    }

    private static void kindAndSide() {
        ReplayBooth x = Check.told(THREE);
        int[][] kinds = {{20, 0, 0, 1}, {30, 1, 1, 2}};
        int[][] sides = {{1, 1, 0, 0}, {2, 2, 0, 0}};
        for (int i = 0; i < 2; i++) {
            for (int what = 0; what < 4; what++) {
                due("kind " + i + " " + what, x.kind(i, what), kinds[i][what]);
                due("side " + i + " " + what, x.side(i, what), sides[i][what]);
            }
        }
        for (int none : new int[] {-1, 2, 99, Integer.MIN_VALUE}) {
            due("kind " + none, x.kind(none, 0), -1);
            due("side " + none, x.side(none, 0), -1);
        }
        for (int none : new int[] {-1, 4, Integer.MAX_VALUE}) {
            due("kind 0 " + none, x.kind(0, none), -1);
            due("side 0 " + none, x.side(0, none), -1);
        }
        x.next();
        due("told no", x.side(0, 3), 0);
        x.challenge(1, 0);
        due("overturned to yes", x.side(0, 3), 7);
        due("t won", x.side(1, 2), 1);
        due("t has one more", x.side(1, 1), 3);
        due("as told", x.side(1, 0), 2);
        nexts(x, 2);
        due("points of t", x.side(1, 3), 6);
    }

    private static void play() {
        ReplayBooth x = Check.told(THREE);
        int[][] plays = {{3, 0, 0, 7, 0, 2, -2, 0, 0}, {3, 1, 1, 2, 1, 3, -2, 0, 0}, {5, 0, 1, 4, 1, 2, -2, 0, 0}};
        for (int p = 0; p < 3; p++) {
            for (int what = 0; what < 9; what++) {
                due("play " + p + " " + what, x.play(p, what), plays[p][what]);
            }
        }
        due("play 3", x.play(3, 0), -1);
        due("play -1", x.play(-1, 0), -1);
        due("what 9", x.play(0, 9), -1);
        due("what -1", x.play(0, -1), -1);
        nexts(x, 2);
        due("happened", x.play(0, 6), 0);
        due("not reviewed", x.play(0, 7), 0);
        due("reviewed at once", x.play(1, 7), 1);
        due("its call", x.play(1, 6), 1);
        due("not yet", x.play(2, 6), -2);
        x.put(0, 0);
        due("on a board", x.play(0, 8), 1);
        due("a board is no review", x.play(0, 7), 0);
        due("overturned", x.play(0, 6), 1);
        due("as told", x.play(0, 4), 0);
        due("no board", x.play(1, 8), 0);
    }

    private static void frame() {
        ReplayBooth x = Check.told(THREE);
        int[][] frames = {{0, 10, 1, 2}, {1, 20, 2, 4}, {0, 30, 4, 0}};
        for (int k = 0; k < 3; k++) {
            for (int what = 0; what < 4; what++) {
                due("frame 1 " + k + " " + what, x.frame(1, k, what), frames[k][what]);
            }
        }
        Check.none("frame 1 3", () -> x.frame(1, 3, 0));
        Check.none("frame 1 -1", () -> x.frame(1, -1, 0));
        Check.none("frame 3", () -> x.frame(3, 0, 0));
        Check.none("frame -1", () -> x.frame(-1, 0, 0));
        Check.none("what 4", () -> x.frame(0, 0, 4));
        Check.none("what -1", () -> x.frame(0, 0, -1));
        ReplayBooth y = Check.told("camera a 0 0;side s 1;kind k 1 0 before 1;play p 1 k s 1 no a 999?3!0!2?1 a 0;");
        due("there", y.frame(0, 0, 2), 5);
        due("not yet", y.frame(0, 0, 3), 10);
        due("bare there", y.frame(0, 1, 2), 0);
        due("bare not yet", y.frame(0, 1, 3), 0);
    }

    // ---- 9 to 16

    private static void verdict() {
        ReplayBooth x = Check.told(FOUR);
        int[][] verdicts = {{2, 2, 1}, {2, 2, 3}, {2, 2}, {2, 2, 0}};
        for (int p = 0; p < 4; p++) {
            for (int n = 0; n < verdicts[p].length; n++) {
                due("verdict " + p + " " + n, x.verdict(p, n), verdicts[p][n]);
            }
            due("verdict " + p + " of more", x.verdict(p, verdicts[p].length), -1);
            due("verdict " + p + " -1", x.verdict(p, -1), -1);
        }
        due("verdict 4", x.verdict(4, 0), -1);
        due("verdict -1", x.verdict(-1, 0), -1);
        // at tick 11 of a clock late by 1 the moment is 10, as at tick 10 of one without
        String two = "camera a 0 0;camera b 1 1;side s 1;kind k 1 0 before 1;play p 1 k s 1 no ";
        due("b 11 is moment 10", Check.told(two + "a 10!0 b 11?1;").verdict(0, 2), 1);
        due("b 10 is moment 9", Check.told(two + "a 10!0 b 10?1;").verdict(0, 2), 2);
        due("behind each other", Check.told(two + "a 10?0 b 11!1;").verdict(0, 2), 0);
        due("it can be both", Check.told(two + "a 10?0 b 13!1;").verdict(0, 2), 2);
        due("at once is not ahead", Check.told(two + "a 10?0 b 12!1;").verdict(0, 2), 0);
        due("one moment between", Check.told(two + "a 10?0!1;").verdict(0, 1), 0);
        // a clock that may be late by 0 or 1 makes the first of these open
        String late = "camera a 0 0;camera b 0 1;side s 1;kind k 1 0 before 1;play p 1 k s 1 no ";
        due("perhaps late", Check.told(late + "a 10!0 b 10?1;").verdict(0, 2), 2);
        due("perhaps late by one", Check.told(late + "a 10!0 b 11?1;").verdict(0, 2), 1);
        due("flashed", Check.told(late + "a 10!0 b 10?1;flash a 3 b 3;").verdict(0, 2), 1);
        due("late for sure", Check.told(late + "a 10!0 b 10?1;flash a 3 b 4;").verdict(0, 2), 2);
        due("the clock is one clock", Check.told(late + "b 10!0 b 10?1;").verdict(0, 2), 1);
        due("it makes the clock sure", Check.told(late + "a 10?2 b 11!2 a 10!0 b 10?1;").verdict(0, 4), 1);
        due("torn by the flashes", Check.told(late + ";flash a 3 b 5;").verdict(0, 0), 3);
    }

    private static void verdictOfPairs() {
        String head = "camera a 0 0;side s 1;kind k 1 0 before 1 and 1 before 2;kind j 1 0 before 1 and 1 before 0;"
                + "kind i 1 2 before 3 and 0 before 1;";
        due("one of two", Check.told(head + "play p 1 k s 1 no a 5!0?1;").verdict(0, 1), 2);
        due("both", Check.told(head + "play p 1 k s 1 no a 5!0?1 a 7!1?2;").verdict(0, 2), 1);
        due("the second fails", Check.told(head + "play p 1 k s 1 no a 5!0?1 a 7?1!2;").verdict(0, 2), 0);
        due("no room between", Check.told(head + "play p 1 k s 1 no a 5?0 a 7!2;").verdict(0, 2), 0);
        due("room between", Check.told(head + "play p 1 k s 1 no a 5?0 a 8!2;").verdict(0, 2), 2);
        due("pairs that can't be", Check.told(head + "play p 1 j s 1 no;").verdict(0, 0), 0);
        due("torn is not no", Check.told(head + "play p 1 j s 1 no a 5!0?1 a 5!1;").verdict(0, 2), 3);
        due("the second pair alone", Check.told(head + "play p 1 i s 1 no a 5!0?1;").verdict(0, 1), 2);
        due("both apart", Check.told(head + "play p 1 i s 1 no a 5!0?1!2?3;").verdict(0, 1), 1);
    }

    private static void by() {
        ReplayBooth x = Check.told(THREE);
        int[][] by = {{2, 1, 2, 1}, {2, 2, 2, 1}, {2, 2, 2, 0}};
        for (int p = 0; p < 3; p++) {
            for (int cameras = 0; cameras < 4; cameras++) {
                due("by " + p + " " + cameras, x.by(p, cameras), by[p][cameras]);
            }
        }
        for (int none : new int[] {4, 5, 7, -1, -4, Integer.MIN_VALUE, 1 << 30}) {
            due("by 0 " + none, x.by(0, none), -1);
        }
        due("by 3", x.by(3, 1), -1);
        due("by -1", x.by(-1, 1), -1);
    }

    private static void gap() {
        ReplayBooth x = Check.told(FOUR);
        due("least of p", x.gap(0, 0, 1, false), 2);
        due("most of p", x.gap(0, 0, 1, true), 1000000);
        due("the other way", x.gap(0, 1, 0, true), -2);
        due("the other way, least", x.gap(0, 1, 0, false), 1000000);
        due("unseen", x.gap(0, 2, 3, false), 1000000);
        due("the same", x.gap(0, 3, 3, false), 0);
        due("the same, most", x.gap(0, 3, 3, true), 0);
        due("torn", x.gap(1, 0, 1, true), 2000000);
        due("torn, the same", x.gap(1, 2, 2, false), 2000000);
        due("mark 4", x.gap(0, 0, 4, true), 3000000);
        due("mark -1", x.gap(0, -1, 0, true), 3000000);
        due("torn, mark 4", x.gap(1, 4, 0, true), 3000000);
        due("play 4", x.gap(4, 0, 1, true), 3000000);
        due("play -1", x.gap(-1, 0, 0, true), 3000000);
        ReplayBooth y = Check.told("camera a 0 0;camera b 0 4;side s 1;kind k 1 0 before 1;"
                + "play p 1 k s 1 no a 10?0 a 13!0 b 20?1 b 21!1;");
        due("least from 12 to 17", y.gap(0, 0, 1, false), 4);
        due("most from 11 to 21", y.gap(0, 0, 1, true), 10);
        due("least back", y.gap(0, 1, 0, false), -10);
        due("pairs do not count", Check.told("camera a 0 0;side s 1;kind k 1 0 before 1;"
                + "play p 1 k s 1 no a 10?0!1 a 11!0;").gap(0, 0, 1, true), -1);
    }

    private static void fewest() {
        ReplayBooth x = Check.told(FOUR);
        due("both", x.fewest(0), 3);
        due("torn", x.fewest(1), -2);
        due("open", x.fewest(2), -2);
        due("no", x.fewest(3), 3);
        due("none such", x.fewest(4), -1);
        due("none such", x.fewest(-1), -1);
        due("once more", x.fewest(0), 3);
        due("no frame at all", Check.told("camera a 0 0;side s 1;kind j 1 0 before 1 and 1 before 0;"
                + "play p 1 j s 1 no a 5!0 a 6!1;").fewest(0), 0);
    }

    private static void fewestOfAsFew() {
        String head = "camera a 0 0;camera b 0 0;side s 1;kind k 1 0 before 1;play p 1 k s 1 no ";
        ReplayBooth one = Check.told(head + "a 5!0 a 6?1 b 9!0?1 b 9!0?1;");
        due("one is enough, the first of two", one.fewest(0), 4);
        due("no single key", one.key(0), 0);
        due("a's are enough", one.enough(0), 1);
        ReplayBooth pairs = Check.told(head + "b 5!2 b 6?1 a 5!0 a 6?1 b 4!0;");
        due("two, the least number", pairs.fewest(0), 6);
        due("either ?1, either !0: no key", pairs.key(0), 0);
        due("a alone is enough, and less than b", pairs.enough(0), 1);
        ReplayBooth b = Check.told(head + "a 5!2 b 6?1 b 5!0;");
        due("b alone", b.enough(0), 2);
        due("the last two", b.fewest(0), 6);
        due("their keys", b.key(0), 6);
        // told anew, what was found is found anew
        due("anew", Check.tell(b, head + "a 6?1 a 5!0;"), 1);
        due("anew fewest", b.fewest(0), 3);
    }

    private static void keyAndEnough() {
        ReplayBooth x = Check.told(THREE);
        due("key of p", x.key(0), 3);
        due("key of q", x.key(1), 3);
        due("fewest of q", x.fewest(1), 3);
        due("key of r", x.key(2), 3);
        due("enough for p", x.enough(0), 1);
        due("enough for q", x.enough(1), 3);
        due("enough for r", x.enough(2), 3);
        due("key 3", x.key(3), -1);
        due("key -1", x.key(-1), -1);
        due("enough 3", x.enough(3), -1);
        due("enough -1", x.enough(-1), -1);
        ReplayBooth y = Check.told(FOUR);
        due("key torn", y.key(1), -2);
        due("key open", y.key(2), -2);
        due("enough torn", y.enough(1), -2);
        due("enough open", y.enough(2), -2);
        due("some of the frames", Check.told("camera a 0 0;side s 1;kind k 1 0 before 1;"
                + "play p 1 k s 1 no a 5!0 a 4!0 a 7?1;").key(0), 4);
        due("no camera at all", Check.told("side s 1;kind j 1 0 before 1 and 1 before 0;play p 1 j s 1 no;")
                .enough(0), 0);
    }

    private static void mend() {
        ReplayBooth x = Check.told(FOUR);
        due("not torn", x.mend(0), 0);
        due("the first of two", x.mend(1), 1);
        due("open", x.mend(2), 0);
        due("none such", x.mend(4), -1);
        due("none such", x.mend(-1), -1);
        String head = "camera a 0 0;camera b 0 1;side s 1;kind k 1 0 before 1;play p 1 k s 1 no ";
        due("one against two", Check.told(head + "a 4!0 a 4!0 a 4?0;").mend(0), 4);
        due("two of four", Check.told(head + "a 4!0 a 5!0 a 5?0 a 6?0;").mend(0), 3);
        due("two marks", Check.told(head + "a 4!0!1 a 4?0 a 5?1;").mend(0), 1);
        due("two apart", Check.told(head + "a 4!0 a 4?0 a 4!1 a 4?1;").mend(0), 5);
        due("torn without any", Check.told(head + "a 4!0;flash a 1 b 3;").mend(0), -2);
        due("torn without frames", Check.told(head + ";flash a 1 b 3;").mend(0), -2);
        due("no frames", Check.told(head + ";").mend(0), 0);
    }

    private static void look() {
        ReplayBooth x = Check.told(THREE);
        int[][] looks = {{2, 40, 2}, {1, 60, 2}, {2, 40, 2}};
        for (int p = 0; p < 3; p++) {
            for (int what = 0; what < 3; what++) {
                due("look " + p + " " + what, x.look(p, what), looks[p][what]);
            }
        }
        due("look 3", x.look(3, 0), -1);
        due("look -1", x.look(-1, 0), -1);
        due("what 3", x.look(0, 3), -1);
        due("what -1", x.look(0, -1), -1);
        due("nothing changes", x.count(7) + x.seconds(3) + x.count(8), 0);
        x.next();
        x.challenge(0, 0);
        due("of its call now", x.look(0, 0), 1);
        String head = "camera a 0 0;side s 1;kind k 20 0 before 1;kind j 9 0 before 1 and 1 before 0;";
        String play = "play p 1 k s 1 no a 10!0 a 12 a 10?1 a 13!2;";
        due("limit 59", Check.told(head + play + "limit 59;").look(0, 1), 40);
        due("limit 59 stands", Check.told(head + play + "limit 59;").look(0, 0), 0);
        due("limit 60", Check.told(head + play + "limit 60;").look(0, 0), 2);
        due("it ends as soon as it can", Check.told(head + play + "limit 999;").look(0, 2), 3);
        due("limit 0", Check.told(head + play + "limit 0;").look(0, 1), 0);
        due("limit 19", Check.told(head + play + "limit 19;").look(0, 2), 0);
        due("limit 20", Check.told(head + play + "limit 20;").look(0, 2), 1);
        ReplayBooth sure = Check.told(head + "limit 0;play p 1 j s 1 yes a 10!0;play q 1 j s 1 no a 10!0;");
        due("sure without a frame", sure.look(0, 0), 2);
        due("confirmed without a frame", sure.look(1, 0), 1);
        due("no frame is looked at", sure.look(0, 2), 0);
        due("torn stands", Check.told(FOUR).look(1, 0), 0);
        due("torn ends it", Check.told(head + "play p 1 k s 1 no a 4!0 a 4?0 a 5;").look(0, 2), 2);
        due("torn by flashes", Check.told(head + play + "camera b 0 0;flash a 1 b 2;").look(0, 2), 0);
        due("open to the end", Check.told(FOUR).look(2, 2), 1);
    }

    // ---- 17 to 22

    private static void next() {
        ReplayBooth x = Check.told(THREE);
        due("not reviewed", x.next(), 3);
        due("forced", x.next(), 1);
        due("not forced", x.next(), 3);
        due("none more", x.next(), -1);
        due("no act", x.count(8), 3);
        ReplayBooth last = Check.told(FOUR + "last 2;");
        due("minute 1 of last 2", last.next(), 3);
        due("minute 2, torn", last.next(), 0);
        due("minute 2, open", last.next(), 0);
        due("minute 4", last.next(), 2);
        due("its call", last.play(3, 6), 0);
        due("no side's challenge", last.log(0, 1), -1);
        due("challenges stay", last.side(0, 1), 2);
        due("nobody won", last.side(1, 2), 0);
        due("last 0", Check.told(FOUR + "last 0;").next(), 1);
        due("seconds", last.seconds(2), 60);
    }

    private static void challenge() {
        ReplayBooth x = Check.told(FOUR + "window 9;");
        due("not happened", x.challenge(0, 0), -2);
        nexts(x, 4);
        due("side 2", x.challenge(2, 0), -1);
        due("side -1", x.challenge(-1, 0), -1);
        due("play 4", x.challenge(0, 4), -1);
        due("play -1", x.challenge(0, -1), -1);
        due("none left", x.challenge(1, 0), -2);
        due("no acts", x.count(8), 4);
        due("overturned", x.challenge(0, 3), 2);
        due("kept", x.side(0, 1), 2);
        due("won", x.side(0, 2), 1);
        due("reviewed", x.challenge(0, 3), -2);
        due("confirmed", x.challenge(0, 0), 1);
        due("gone", x.side(0, 1), 1);
        due("stands", x.challenge(0, 2), 0);
        due("gone too", x.side(0, 1), 0);
        due("won still", x.side(0, 2), 1);
        due("none left now", x.challenge(0, 1), -2);
        due("its own seconds", x.seconds(4), 40);
        due("five rows less two", x.count(7), 3);
        ReplayBooth put = Check.told(FOUR + "board c 9(a);");
        put.next();
        put.put(0, 0);
        due("on a board", put.challenge(0, 0), -2);
        ReplayBooth forced = Check.told(THREE);
        nexts(forced, 2);
        due("reviewed at once", forced.challenge(1, 1), -2);
    }

    private static void challengeOfWindow() {
        for (int window = 0; window < 4; window++) {
            ReplayBooth x = Check.told(FOUR + "window " + window + ";");
            nexts(x, 4);
            if (window < 3) {
                due("window " + window, x.challenge(0, 2 - window), -2);
            }
            due("within window " + window, x.challenge(0, 3 - window) >= 0 ? 1 : 0, 1);
        }
        ReplayBooth x = Check.told(FOUR);
        nexts(x, 2);
        due("one behind it", x.challenge(0, 0), 1);
        ReplayBooth y = Check.told(FOUR);
        nexts(y, 3);
        due("two behind it", y.challenge(0, 0), -2);
    }

    private static void bonus() {
        StringBuilder text = new StringBuilder("camera a 0 0;side s 8;side t 1;kind k 1 0 before 1;board c 1(a);window 9;");
        for (int p = 0; p < 6; p++) {
            text.append("play x").append((char) ('a' + p)).append(" 1 k s 1 no a 5!0?1;");
        }
        ReplayBooth x = Check.told(text + "bonus 2;");
        nexts(x, 6);
        int[] left = {8, 9, 9, 9, 9, 9};
        for (int p = 0; p < 6; p++) {
            due("won " + p, x.challenge(0, p), 2);
            due("left " + p, x.side(0, 1), left[p]);
            due("won so many", x.side(0, 2), p + 1);
        }
        ReplayBooth without = Check.told(text.toString());
        nexts(without, 6);
        without.challenge(1, 3);
        due("no bonus", without.side(1, 1), 1);
        ReplayBooth third = Check.told(text + "bonus 3;");
        nexts(third, 6);
        for (int p = 0; p < 6; p++) {
            third.challenge(1, p);
            due("every third", third.side(1, 1), p < 2 ? 1 : p < 5 ? 2 : 3);
        }
        // 9 left, one gone, a bonus back to 9; then the one that comes back would be the tenth
        ReplayBooth most = Check.told("camera a 0 0;side s 9;kind k 1 0 before 1;board c 1(a);window 9;bonus 1;limit 1;"
                + "play p 1 k s 1 no a 5!0 a 5?1;play q 1 k s 1 no a 5!0?1;");
        nexts(most, 2);
        due("limited", most.challenge(0, 0), 0);
        due("8 left", most.side(0, 1), 8);
        due("won", most.challenge(0, 1), 2);
        due("9 left", most.side(0, 1), 9);
        due("board", most.put(0, 0), 1);
        due("9 at most", most.side(0, 1), 9);
    }

    private static void restart() {
        ReplayBooth x = Check.told("camera a 0 0;side s 3;kind k 20 again 0 before 1;kind j 10 1 before 0;"
                + "board c 1(a);window 2;play p 1 k s 5 yes a 10!1 a 12?0;play q 2 j s 3 no a 4!0 a 4?0;"
                + "play r 2 j s 1 no a 5!1 a 5?0;");
        nexts(x, 3);
        due("q stands", x.challenge(0, 1), 0);
        due("r is put", x.put(0, 2), 1);
        due("points", x.side(0, 3), 6);
        due("p is overturned", x.challenge(0, 0), 2);
        due("p alone happened", x.count(6), 1);
        due("its call is no", x.play(0, 6), 0);
        due("q has not happened", x.play(1, 6), -2);
        due("q was not reviewed", x.play(1, 7), 0);
        due("r was not put", x.play(2, 8), 0);
        due("points", x.side(0, 3), 0);
        due("challenges stay", x.side(0, 1), 2);
        due("won", x.side(0, 2), 1);
        due("seconds stay", x.seconds(2), 20);
        due("the log stays", x.count(7), 3);
        due("q can't be challenged", x.challenge(0, 1), -2);
        due("r can't be put", x.put(0, 2), -2);
        due("r as told", x.look(2, 0), 2);
        nexts(x, 2);
        due("q once more", x.challenge(0, 1), 0);
        due("seconds sum up", x.seconds(2), 40);
        due("r as told again", x.play(2, 6), 0);
        due("r once more", x.put(0, 2), 1);
        due("p stays reviewed", x.challenge(0, 0), -2);
        due("p confirmed by the board", x.put(0, 0), 0);
        due("acts", x.count(8), 11);
        for (int i = 0; i < 5; i++) {
            x.undo();
        }
        due("undone to the restart", x.count(6), 1);
        x.undo();
        due("r is put once more", x.play(2, 8), 1);
        due("q is reviewed once more", x.play(1, 7), 1);
        due("its points", x.side(0, 3), 6);
        ReplayBooth v = Check.told("camera a 0 0;side s 3;kind k 20 again 0 before 1;window 2;"
                + "play p 1 k s 5 yes a 10!1?0;play q 2 k s 3 no a 4!0?1;play r 2 k s 1 no;");
        nexts(v, 2);
        due("q is overturned", v.challenge(0, 1), 2);
        due("p is overturned", v.challenge(0, 0), 2);
        v.next();
        due("q as told", v.play(1, 6), 0);
        due("q is not reviewed", v.play(1, 7), 0);
        // a board's overturning begins nothing again
        ReplayBooth y = Check.told("camera a 0 0;side s 1;kind k 20 again 0 before 1;board c 1(a);"
                + "play p 1 k s 5 yes a 10!1?0;play q 2 k s 3 no;");
        nexts(y, 2);
        due("put", y.put(0, 0), 1);
        due("both happened", y.count(6), 2);
        // nor does one that is confirmed
        ReplayBooth z = Check.told("camera a 0 0;side s 1;kind k 20 again 0 before 1;"
                + "play p 1 k s 5 no a 10!1?0;play q 2 k s 3 no;");
        nexts(z, 2);
        due("confirmed", z.challenge(0, 0), 1);
        due("both happened", z.count(6), 2);
    }

    private static void put() {
        ReplayBooth x = Check.told(THREE + "board d 2(a)(a b);board e 3(a)(a b)(b);");
        due("not happened", x.put(0, 0), -2);
        nexts(x, 3);
        due("board 3", x.put(3, 0), -1);
        due("board -1", x.put(-1, 0), -1);
        due("play 3", x.put(0, 3), -1);
        due("play -1", x.put(0, -1), -1);
        due("two of two", x.put(1, 0), 1);
        due("its call", x.play(0, 6), 1);
        due("points", x.side(0, 3), 7);
        due("once in all", x.put(0, 0), -2);
        due("one of two", x.put(1, 2), 0);
        due("its call stays", x.play(2, 6), 1);
        due("a reviewed one", x.put(0, 1), 0);
        due("no seconds", x.seconds(5), 0);
        due("acts", x.count(8), 6);
        due("rows", x.count(7), 4);
        ReplayBooth y = Check.told(THREE + "board e 3(a)(a b)(b);");
        y.next();
        due("two of three", y.put(1, 0), 0);
    }

    private static void comesBack() {
        String text = "camera a 0 0;side s 2;side t 1;kind k 50 0 before 1;kind j 50 1 before 0;board c 1(a);board d 2(a);"
                + "window 9;play p 1 k s 5 no a 1!0 a 1?1;play q 1 j s 5 no a 1!0 a 1?1;";
        ReplayBooth x = Check.told(text);
        nexts(x, 2);
        due("limited", x.challenge(0, 0), 0);
        due("gone", x.side(0, 1), 1);
        due("the board sees all", x.put(0, 0), 1);
        due("back", x.side(0, 1), 2);
        due("not to the other", x.side(1, 1), 1);
        ReplayBooth y = Check.told(text);
        nexts(y, 2);
        y.challenge(1, 0);
        due("gone of t", y.side(1, 1), 0);
        due("not overturned", y.put(1, 0), 0);
        due("not back", y.side(1, 1), 0);
        ReplayBooth z = Check.told(text);
        nexts(z, 2);
        due("no challenge", z.put(0, 0), 1);
        due("nothing comes", z.side(0, 1) + z.side(1, 1), 3);
        // undone, or gone back from, it was never gone
        ReplayBooth u = Check.told(text);
        nexts(u, 2);
        u.keep(0, false);
        u.challenge(0, 0);
        u.undo();
        due("put behind undo", u.put(0, 0), 1);
        due("nothing comes", u.side(0, 1), 2);
        u.undo();
        u.challenge(0, 0);
        u.keep(1, false);
        u.keep(0, true);
        due("put behind a keep", u.put(0, 0), 1);
        due("nothing comes", u.side(0, 1), 2);
        u.keep(1, true);
        due("gone again", u.side(0, 1), 1);
        due("put", u.put(0, 0), 1);
        due("it comes back", u.side(0, 1), 2);
        // since it happened last: the challenge that was gone before the restart does not come back
        ReplayBooth w = Check.told("camera a 0 0;side s 3;kind k 50 0 before 1;kind j 1 again 1 before 0;board c 1(a);"
                + "window 9;play o 1 j s 1 yes a 1!0?1;play p 1 k s 5 no a 1!0 a 1?1;");
        nexts(w, 2);
        due("p stands", w.challenge(0, 1), 0);
        due("o begins again", w.challenge(0, 0), 2);
        w.next();
        due("p is put", w.put(0, 1), 1);
        due("not back", w.side(0, 1), 2);
    }

    private static void votes() {
        ReplayBooth x = Check.told(THREE + "board d 2(a)(b)(a b);board e 9(a b);");
        int[][] votes = {{3, 0, 2}, {5, 0, 4}, {1, 0, 1}};
        int[][] pivots = {{0, 0, 2}, {5, 0, 0}, {0, 0, 0}};
        int[] boards = {3, 0, 1};
        for (int p = 0; p < 3; p++) {
            for (int b = 0; b < 3; b++) {
                due("votes " + b + " " + p, x.votes(b, p), votes[b][p]);
                due("pivot " + b + " " + p, x.pivot(b, p), pivots[b][p]);
            }
            due("boards " + p, x.boards(p), boards[p]);
        }
        for (int none : new int[] {-1, 3}) {
            due("votes, board " + none, x.votes(none, 0), -1);
            due("votes, play " + none, x.votes(0, none), -1);
            due("pivot, board " + none, x.pivot(none, 0), -1);
            due("pivot, play " + none, x.pivot(0, none), -1);
            due("boards " + none, x.boards(none), -1);
        }
        x.next();
        x.challenge(0, 0);
        due("votes of its call now", x.votes(0, 0), 0);
        due("boards of its call now", x.boards(0), 0);
        x.undo();
        x.undo();
        due("votes as told", x.votes(0, 0), 3);
        ReplayBooth y = Check.told("camera a 0 0;side s 1;kind k 1 0 before 1;board c 1(a);play p 1 k s 1 no a 1!0 a 1?0;"
                + "play q 1 k s 1 yes a 5!0;");
        due("torn: no vote", y.votes(0, 0), 0);
        due("open: no vote", y.votes(0, 1), 0);
        due("need 1 of none: no pivot", y.pivot(0, 0), 0);
    }

    // ---- 23 to 27

    private static void truth() {
        ReplayBooth x = Check.told(FOUR);
        due("s: p yes, q torn as told no", x.truth(0), 5);
        due("t: r open as told yes, o no", x.truth(1), 1);
        due("s least", x.range(0, false), 5);
        due("s most", x.range(0, true), 35);
        due("t least", x.range(1, false), 0);
        due("t most", x.range(1, true), 1);
        for (int none : new int[] {-1, 2}) {
            due("truth " + none, x.truth(none), -1);
            due("range " + none, x.range(none, false), -1);
            due("range " + none + " most", x.range(none, true), -1);
        }
        due("wrong", x.wrong(), 8);
        nexts(x, 4);
        x.challenge(0, 3);
        due("wrong as told", x.wrong(), 8);
        due("truth stays", x.truth(1), 1);
        due("wrong of three", Check.told(THREE).wrong(), 5);
        due("truth of three", Check.told(THREE).truth(0), 7);
        due("told yes, torn", Check.told("camera a 0 0;side s 1;kind k 1 0 before 1;play p 1 k s 9 yes a 1!0?1 a 1!1;")
                .truth(0), 9);
    }

    private static void left() {
        ReplayBooth x = Check.told(THREE);
        due("s", x.left(0), 0);
        due("t", x.left(1), 6);
        due("none such", x.left(2), -1);
        due("none such", x.left(-1), -1);
        ReplayBooth last = Check.told(THREE + "last 4;");
        due("r is reviewed at once", last.left(1), 2);
        due("all are", Check.told(THREE + "last 3;").left(0), 7);
        due("as far as the limit lets", Check.told(THREE + "last 3;limit 30;").left(0), 0);
        nexts(x, 1);
        x.challenge(0, 0);
        due("from the first one on", x.left(0), 0);
        due("nothing changes", x.count(6), 1);
    }

    private static void need() {
        ReplayBooth x = Check.told(THREE);
        due("s wins both", x.need(0), 1);
        due("nothing against t", x.need(1), 0);
        due("none such", x.need(2), -1);
        due("none such", x.need(-1), -1);
        due("at once: no challenge", Check.told(THREE + "last 0;").need(0), 0);
        String head = "camera a 0 0;side s 0;side t 0;kind k 1 0 before 1;";
        String won = " 1 k s 1 no a 5!0?1;";
        String lost = " 1 k t 1 yes a 5!0?1;";
        due("lost twice", Check.told(head + "play xa" + lost + "play xb" + lost).need(0), 2);
        due("lost, won, lost", Check.told(head + "play xa" + lost + "play xb" + won + "play xc" + lost).need(0), 2);
        due("won, lost", Check.told(head + "play xa" + won + "play xb" + lost).need(0), 1);
        due("lost, won", Check.told(head + "play xa" + lost + "play xb" + won).need(0), 2);
        due("a bonus", Check.told("bonus 1;" + head + "play xa" + won + "play xb" + lost + "play xc" + lost).need(0), 1);
        due("bonus of two", Check.told("bonus 2;" + head + "play xa" + won + "play xb" + lost + "play xc" + lost).need(0),
                2);
        due("not against t", Check.told(head + "play xa" + won + "play xb" + lost).need(1), 0);
        due("told no of another", Check.told(head + "play xa 1 k t 1 no;").need(0), 0);
        due("its own told yes", Check.told(head + "play xa 1 k s 1 yes;").need(0), 0);
        StringBuilder eight = new StringBuilder(head);
        for (char c = 'a'; c < 'i'; c++) {
            eight.append("play x").append(c).append(lost);
        }
        due("eight lost", Check.told(eight.toString()).need(0), 8);
    }

    // ---- 28 to 35

    private static void seconds() {
        ReplayBooth x = Check.told(FOUR + "window 9;");
        nexts(x, 4);
        x.challenge(0, 0);
        due("minute 1", x.seconds(1), 40);
        due("one minute more", x.extra(), 1);
        x.challenge(0, 2);
        due("minute 2", x.seconds(2), 20);
        due("two minutes more", x.extra(), 2);
        due("minute 0", x.seconds(0), 0);
        due("minute 999", x.seconds(999), 0);
        due("minute 1000", x.seconds(1000), -1);
        due("minute -1", x.seconds(-1), -1);
        String head = "camera a 0 0;side s 9;kind k 30 forced 0 before 1;kind j 1 forced 0 before 1;";
        ReplayBooth y = Check.told(head + "play p 7 k s 1 yes a 1!0 a 1?1;play q 8 k s 1 yes a 1!0 a 1?1;"
                + "play r 8 j s 1 yes a 1!0?1;play o 999 k s 1 yes a 1!0;");
        y.next();
        due("60 are one", y.extra(), 1);
        y.next();
        due("60 and 60 of two minutes", y.extra(), 2);
        y.next();
        due("plays of one minute together", y.seconds(8), 61);
        due("61 are two", y.extra(), 3);
        y.next();
        due("minute 999", y.seconds(999), 30);
        due("30 are one", y.extra(), 4);
        y.undo();
        due("undone", y.extra(), 3);
        due("minute 999 undone", y.seconds(999), 0);
    }

    private static void log() {
        ReplayBooth x = Check.told(THREE);
        nexts(x, 2);
        x.challenge(1, 0);
        x.put(0, 0);
        x.next();
        x.put(0, 2);
        int[][] rows = {{2, 10, 2, 0}, {0, 10, 0, 0}, {0, 1, 2, 40}, {1, -1, 1, 60}};
        for (int ago = 0; ago < 4; ago++) {
            for (int what = 0; what < 4; what++) {
                due("log " + ago + " " + what, x.log(ago, what), rows[ago][what]);
            }
        }
        Check.none("log 4", () -> x.log(4, 0));
        Check.none("log -1", () -> x.log(-1, 0));
        Check.none("what 4", () -> x.log(0, 4));
        Check.none("what -1", () -> x.log(0, -1));
        logOfSixteen();
    }

    /** The first PLAY begins the seven behind it again, which are reviewed at once: 7, 1, 7 and some rows. */
    private static void logOfSixteen() {
        StringBuilder many = new StringBuilder("camera a 0 0;side s 9;kind j 9 again 0 before 1;"
                + "kind k 1 forced 0 before 1;board c 1(a);window 9;play xa 1 j s 1 no a 1!0?1;");
        for (char c = 'b'; c < 'i'; c++) {
            many.append("play x").append(c).append(" 1 k s 1 no a 1;");
        }
        ReplayBooth x = Check.told(many.toString());
        nexts(x, 8);
        due("7 rows", x.count(7), 7);
        due("overturned", x.challenge(0, 0), 2);
        nexts(x, 7);
        due("15 rows", x.count(7), 15);
        due("the oldest", x.log(14, 0), 1);
        x.put(0, 0);
        due("16 rows", x.count(7), 16);
        due("the oldest of 16", x.log(15, 0), 1);
        x.put(0, 7);
        due("16 rows still", x.count(7), 16);
        due("the oldest now", x.log(15, 0), 2);
        due("the challenge", x.log(9, 1), 0);
        due("its seconds", x.log(9, 3), 9);
        Check.none("log 16", () -> x.log(16, 0));
        due("seconds of all reviews", x.seconds(1), 23);
        due("sheet of 16", x.sheet(2, 0, 16), 16);
        due("the challenge's seconds", x.row(9), 9);
        x.undo();
        due("the oldest is there again", x.log(15, 0), 1);
    }

    private static void sheet() {
        ReplayBooth x = Check.told("camera a 0 0;side s 9;kind k 60 forced 0 before 1;limit 999;"
                + "play p 7 k s 1 yes a 1 a 2 a 3 a 4 a 5;play q 8 k s 1 yes a 1 a 2 a 3;play r 8 k s 1 yes a 1;"
                + "play o 9 k s 1 yes;");
        nexts(x, 4);
        due("ints", x.sheet(2, 0, 4), 4);
        int[] ints = {0, 60, 180, 300};
        for (int i = 0; i < 4; i++) {
            due("int " + i, x.row(i), ints[i]);
        }
        Check.none("row 4", () -> x.row(4));
        Check.none("row -1", () -> x.row(-1));
        due("some bytes", x.sheet(0, 1, 4), 3);
        due("byte 60", x.row(0), 60);
        due("byte 180", x.row(1), -76);
        due("byte 300", x.row(2), 44);
        Check.none("row 3", () -> x.row(3));
        due("below", x.sheet(0, 3, 2), -2);
        due("below, far", x.sheet(2, 3, -5), -2);
        due("from behind the log", x.sheet(2, 9, 4), -2);
        due("to above", x.sheet(2, 0, 5), -1);
        due("to above and below from", x.sheet(2, 9, 5), -1);
        due("from below 0", x.sheet(2, -1, 2), -1);
        due("from below 0, to too", x.sheet(2, -1, -2), -1);
        due("kind 3", x.sheet(3, 0, 1), -1);
        due("kind -1", x.sheet(-1, 2, 1), -1);
        due("the row stays", x.count(10), 3);
        due("its numbers too", x.row(1), -76);
        x.undo();
        x.undo();
        due("undone, it stays", x.row(2), 44);
        due("shorts", x.sheet(1, 0, 2), 2);
        due("short 300", x.row(1), 300);
        due("empty", x.sheet(2, 1, 1), 0);
        due("numbers", x.count(10), 0);
        Check.none("row 0", () -> x.row(0));
        due("at the end", x.sheet(2, 2, 2), 0);
    }

    private static void undo() {
        StringBuilder text = new StringBuilder("camera a 0 0;side s 9;kind k 1 0 before 1;board c 1(a);window 9;");
        for (char c = 'a'; c < 'i'; c++) {
            text.append("play x").append(c).append(" 1 k s 1 no a 5!0?1;");
        }
        ReplayBooth x = Check.told(text.toString());
        due("none", x.undo(), -1);
        nexts(x, 8);
        due("eight acts", x.count(8), 8);
        for (int p = 0; p < 8; p++) {
            x.put(0, p);
            due("acts", x.count(8), Math.min(9 + p, 12));
        }
        due("points", x.side(0, 3), 8);
        x.put(0, 0);
        x.challenge(0, 0);
        x.next();
        due("no acts", x.count(8), 12);
        for (int i = 0; i < 8; i++) {
            due("undo a put", x.undo(), 11 - i);
            due("points", x.side(0, 3), 7 - i);
        }
        for (int i = 0; i < 4; i++) {
            due("undo a play", x.undo(), 3 - i);
            due("happened", x.count(6), 7 - i);
        }
        due("no more", x.undo(), -1);
        due("four happened", x.count(6), 4);
        x.challenge(0, 3);
        due("one act", x.count(8), 1);
        due("undone", x.undo(), 0);
        due("not reviewed", x.play(3, 7), 0);
        due("not won", x.side(0, 2), 0);
        due("no row", x.count(7), 0);
        due("no seconds", x.seconds(1), 0);
        due("its call", x.play(3, 6), 0);
        // sixteen rows at most, and the ones behind them come back when undone
        ReplayBooth y = Check.told(text.toString());
        nexts(y, 8);
        for (int p = 0; p < 8; p++) {
            y.challenge(0, p);
        }
        for (int p = 0; p < 8; p++) {
            y.put(0, p);
        }
        due("sixteen rows", y.count(7), 16);
        due("the oldest", y.log(15, 0), 0);
        due("by a side", y.log(15, 1), 0);
        for (int p = 0; p < 8; p++) {
            y.undo();
        }
        due("eight rows", y.count(7), 8);
        due("the latest", y.log(0, 0), 7);
    }

    private static void keep() {
        ReplayBooth x = Check.told(THREE);
        Check.due("none such", x.keep(2, false), false);
        Check.due("none such", x.keep(-1, false), false);
        Check.due("none such", x.keep(2, true), false);
        Check.due("nothing in it", x.keep(0, true), false);
        x.next();
        Check.due("laid", x.keep(0, false), true);
        due("no act", x.count(8), 1);
        x.challenge(0, 0);
        Check.due("laid", x.keep(1, false), true);
        nexts(x, 2);
        x.put(0, 2);
        due("points", x.side(1, 3), 2);
        Check.due("back", x.keep(1, true), true);
        due("happened", x.count(6), 1);
        due("nothing can be undone", x.count(8), 0);
        due("undo", x.undo(), -1);
        due("p is yes", x.play(0, 6), 1);
        due("won", x.side(0, 2), 1);
        due("left", x.side(0, 1), 2);
        due("seconds", x.seconds(3), 40);
        due("rows", x.count(7), 1);
        Check.due("back to the other", x.keep(0, true), true);
        due("p is no", x.play(0, 6), 0);
        due("p is not reviewed", x.play(0, 7), 0);
        due("not won", x.side(0, 2), 0);
        due("no seconds", x.seconds(3), 0);
        due("no rows", x.count(7), 0);
    }

    private static void keepIsACopy() {
        ReplayBooth x = Check.told(THREE);
        x.next();
        x.keep(0, false);
        x.keep(0, true);
        x.challenge(0, 0);
        x.put(0, 0);
        due("acts", x.count(8), 2);
        Check.due("again", x.keep(0, true), true);
        due("p is no", x.play(0, 6), 0);
        due("not on a board", x.play(0, 8), 0);
        due("left", x.side(0, 1), 1);
        due("no rows", x.count(7), 0);
        x.next();
        x.keep(0, false);
        x.undo();
        Check.due("laid anew", x.keep(0, true), true);
        due("two happened", x.count(6), 2);
    }

    private static void count() {
        ReplayBooth x = Check.told(THREE + "limit 61;last 20;window 2;flash b 14 a 10;camera cc 1 1;");
        x.next();
        x.put(0, 0);
        x.sheet(2, 0, 1);
        x.feed(0, 0, 0, 0, 0);
        int[] counts = {3, 2, 2, 2, 1, 3, 1, 1, 2, 20, 1, 61, 1, 20, 2};
        for (int what = 0; what < counts.length; what++) {
            due("count " + what, x.count(what), counts[what]);
        }
        due("count 15", x.count(15), -1);
        due("count -1", x.count(-1), -1);
        due("count far", x.count(Integer.MIN_VALUE), -1);
    }
}
