/** The NUMBERS of a TEXT, how many of each, and the order of the FAULTS (part 1 of the Terms), a sentence a test. */
public final class LineEdgesTest {
    private static final String BASE = "camera a 0 0;camera b 0 0;side s 1;kind k 1 0 before 1;";
    private static final String PLAY = BASE + "play p 1 k s 1 no ";

    public static void main(String[] args) {
        lates();
        flash();
        challenges();
        kinds();
        pairs();
        boards();
        minutes();
        points();
        frames();
        marks();
        settings();
        settingsWithout();
        tooManyLines();
        tooManyParts();
        toldTwice();
        numbered();
        leastPlace();
        firstOfTheList();
        theEnd();
        tokensThatGoNowhere();
        Check.end("LineEdgesTest");
    }

    private static void due(String call, long got, long want) {
        Check.due(call, got, want);
    }

    /** A NUMBER between head and tail that is from low to high, and no other one. */
    private static void bounds(String head, int low, int high, String tail, int plays) {
        Check.fine(head + low + tail, plays);
        Check.fine(head + high + tail, plays);
        for (int cannot : new int[] {low - 1, high + 1, 9999}) {
            if (cannot >= 0) {
                Check.fault(head + "|" + cannot + tail, 3);
            }
        }
    }

    // ---- numbers

    private static void lates() {
        Check.sentence("camera: LATE at least, 0 to 999");
        bounds("camera z ", 0, 999, " 999;", 0);
        Check.sentence("camera: LATE at most, 0 to 999");
        bounds("camera z 0 ", 0, 999, ";", 0);
        Check.sentence("camera: the first one not above the second");
        bounds("camera z 500 ", 500, 999, ";", 0);
        bounds("camera z 999 ", 999, 999, ";", 0);
        Check.fault("camera z 1 |0;", 3);
        ReplayBooth x = Check.told("camera y 0 999;camera z 999 999;");
        due("least", x.camera(0, 0), 0);
        due("most", x.camera(0, 1), 999);
        due("least of the second", x.camera(1, 0), 999);
    }

    private static void flash() {
        Check.sentence("flash: its first tick, 0 to 999");
        bounds(BASE + "flash a ", 0, 999, " b 1;", 0);
        Check.sentence("flash: its second tick, 0 to 999");
        bounds(BASE + "flash a 1 b ", 0, 999, ";", 0);
        Check.sentence("flash: ticks may be alike, CAMERAS not");
        Check.fine(BASE + "flash a 7 b 7;", 0);
        Check.fault(BASE + "flash a 7 |a 8;", 4);
    }

    private static void challenges() {
        Check.sentence("side: CHALLENGES, 0 to 9");
        bounds("side z ", 0, 9, ";", 0);
        ReplayBooth x = Check.told("side y 0;side z 9;");
        due("none", x.side(0, 0), 0);
        due("nine", x.side(1, 0), 9);
    }

    private static void kinds() {
        Check.sentence("kind: SECONDS, 1 to 60");
        bounds("kind z ", 1, 60, " 0 before 1;", 0);
        bounds("kind z ", 1, 60, " forced again 0 before 1;", 0);
        ReplayBooth x = Check.told("kind y 1 0 before 1;kind z 60 0 before 1;");
        due("one", x.kind(0, 0), 1);
        due("sixty", x.kind(1, 0), 60);
        Check.sentence("kind: [ forced ] [ again ], each once at most, in this order");
        Check.fine("kind w 1 0 before 1;kind x 1 forced 0 before 1;kind y 1 again 0 before 1;"
                + "kind z 1 forced again 0 before 1;", 0);
        Check.fault("kind z 1 forced |forced 0 before 1;", 1);
        Check.fault("kind z 1 again |again 0 before 1;", 1);
        Check.fault("kind z 1 again |forced 0 before 1;", 1);
        Check.fault("kind z 1 forced again |forced 0 before 1;", 1);
        Check.fault("kind z |forced 1 0 before 1;", 1);
        Check.fault("kind z 1 0 |forced before 1;", 1);
    }

    private static void pairs() {
        Check.sentence("PAIR: MARKS, 0 to 3");
        bounds("kind z 1 ", 0, 3, " before 1;", 0);
        bounds("kind z 1 1 before ", 0, 3, ";", 0);
        bounds("kind z 1 0 before 1 and ", 0, 3, " before 2;", 0);
        bounds("kind z 1 0 before 1 and 1 before 2 and 2 before ", 0, 3, ";", 0);
        Check.sentence("PAIR: unlike MARKS (3: an unlike one that is like)");
        for (int mark = 0; mark < 4; mark++) {
            Check.fault("kind z 1 " + mark + " before |" + mark + ";", 3);
            Check.fault("kind z 1 " + mark + " before |000" + mark + ";", 3);
            Check.fault("kind z 1 0 before 1 and " + mark + " before |" + mark + ";", 3);
        }
        Check.fine("kind z 1 0 before 1 and 0 before 1 and 1 before 0;", 0);
    }

    private static void boards() {
        Check.sentence("board: NEED, 1 to 9");
        bounds(BASE + "board c ", 1, 9, "(a);", 0);
        Check.sentence("MEMBER: ( CAMERA { CAMERA } ), any often");
        Check.fine(BASE + "board c 1(a)(a)(a a)(a b a b b);", 0);
        Check.fine(BASE + "board c 1(" + "a ".repeat(250) + ");", 0);
        Check.sentence("board: one MEMBER at least, a MEMBER has one CAMERA at least");
        Check.fault(BASE + "board c 1|;", 1);
        Check.fault(BASE + "board c 1(|);", 1);
        Check.fault(BASE + "board c 1(a)(|);", 1);
        Check.fault(BASE + "board c 1(a|;", 1);
    }

    private static void minutes() {
        Check.sentence("play: MINUTE, 0 to 999");
        bounds(BASE + "play p ", 0, 999, " k s 1 no;", 1);
        Check.sentence("play: MINUTE not below the one of the PLAY ahead");
        bounds(BASE + "play o 500 k s 1 no;play p ", 500, 999, " k s 1 no;", 2);
        bounds(BASE + "play o 999 k s 1 no;play p ", 999, 999, " k s 1 no;", 2);
        Check.fault(BASE + "play n 2 k s 1 no;play o 8 k s 1 no;play p |7 k s 1 no;", 3);
        ReplayBooth x = Check.told(BASE + "play o 0 k s 1 no;play p 999 k s 1 no;");
        due("minute 0", x.play(0, 0), 0);
        due("minute 999", x.play(1, 0), 999);
        due("told anew, the one ahead is gone", Check.tell(x, BASE + "play p 0 k s 1 no;"), 1);
    }

    private static void points() {
        Check.sentence("play: POINTS, 0 to 99");
        bounds(BASE + "play p 1 k s ", 0, 99, " no;", 1);
        ReplayBooth x = Check.told(BASE + "play o 1 k s 0 no;play p 1 k s 99 no;");
        due("none", x.play(0, 3), 0);
        due("most", x.play(1, 3), 99);
        Check.sentence("CALL: yes | no");
        Check.fine(BASE + "play o 1 k s 0 yes;play p 1 k s 0 no;", 2);
        for (String none : new String[] {";", "a 1;", "and;", "1;", "yesno;", "!;"}) {
            Check.fault(BASE + "play p 1 k s 0 |" + none, 1);
        }
        Check.fault(BASE + "play p 1 k s 0 yes |no;", 1);
    }

    private static void frames() {
        Check.sentence("FRAME: a tick, 0 to 999");
        bounds(PLAY + "a ", 0, 999, ";", 1);
        bounds(PLAY + "a 5!0 b ", 0, 999, "?0;", 1);
        ReplayBooth x = Check.told(PLAY + "a 0 b 999;");
        due("tick 0", x.frame(0, 0, 1), 0);
        due("tick 999", x.frame(0, 1, 1), 999);
    }

    private static void marks() {
        Check.sentence("FRAME: MARKS, 0 to 3");
        bounds(PLAY + "a 5!", 0, 3, ";", 1);
        bounds(PLAY + "a 5?", 0, 3, ";", 1);
        bounds(PLAY + "a 5!1?2!", 3, 3, ";", 1);
        Check.sentence("FRAME: MARKS each told once in a FRAME at most (3: a MARK told again)");
        for (int mark = 0; mark < 4; mark++) {
            for (String signs : new String[] {"!!", "!?", "?!", "??"}) {
                String first = "a 5" + signs.charAt(0) + mark + signs.charAt(1);
                Check.fault(PLAY + first + "|" + mark + ";", 3);
                Check.fault(PLAY + "b 5 " + first + "|" + mark + ";", 3);
                Check.fine(PLAY + "a 5" + signs.charAt(0) + mark + " a 5" + signs.charAt(1) + mark + ";", 1);
            }
        }
        Check.fine(PLAY + "a 5!0!1!2!3 a 5?3?2?1?0 a 5;", 1);
        Check.fault(PLAY + "a 5!0!1!2!3!|3;", 3);
        Check.fault(PLAY + "a 5!0!1!2!3?|4;", 3);
        Check.fault(PLAY + "a 5!0!1!2!3!|;", 1);
    }

    private static void settings() {
        Check.sentence("limit NUMBER (0 to 999)");
        bounds("limit ", 0, 999, ";", 0);
        due("limit 0", Check.told("limit 0;").count(11), 0);
        due("limit 999", Check.told("limit 999;").count(11), 999);
        Check.sentence("bonus NUMBER (0 to 9)");
        bounds("bonus ", 0, 9, ";", 0);
        due("bonus 0", Check.told("bonus 0;").count(12), 0);
        due("bonus 9", Check.told("bonus 9;").count(12), 9);
        Check.sentence("last NUMBER (0 to 999)");
        bounds("last ", 0, 999, ";", 0);
        due("last 0", Check.told("last 0;").count(13), 0);
        due("last 999", Check.told("last 999;").count(13), 999);
        Check.sentence("window NUMBER (0 to 9)");
        bounds("window ", 0, 9, ";", 0);
        due("window 0", Check.told("window 0;").count(14), 0);
        due("window 9", Check.told("window 9;").count(14), 9);
    }

    private static void settingsWithout() {
        int[] counts = {60, 0, 1000, 1};
        String[] told = {"limit 3;", "bonus 3;", "last 3;", "window 3;"};
        for (int i = 0; i < 4; i++) {
            Check.sentence("limit, bonus, last, window: " + counts[i] + " without");
            due("of a new object", new ReplayBooth().count(11 + i), counts[i]);
            ReplayBooth x = Check.told("limit 2;bonus 2;last 2;window 2;");
            x.text(0);
            due("of an empty text behind another", x.count(11 + i), counts[i]);
            Check.tell(x, told[(i + 1) % 4] + told[(i + 2) % 4] + told[(i + 3) % 4]);
            due("with the others", x.count(11 + i), counts[i]);
        }
    }

    // ---- how many

    /** So many of these lines, told with the letters a, b, .. for #, are fine; one more is one too many. */
    private static void most(String head, String line, int many, int what) {
        StringBuilder lines = new StringBuilder(head);
        for (int i = 0; i < many; i++) {
            lines.append(line.replace('#', (char) ('a' + i)));
        }
        int plays = what == 5 ? many : 0;
        Check.fine(lines.toString(), plays);
        due("as many of what " + what, Check.told(lines.toString()).count(what), many);
        Check.fault(lines + "|" + line.replace('#', (char) ('a' + many)), 5);
        Check.fault(lines + "|" + line.substring(0, line.indexOf(' ')), 5);
        Check.fault(lines + "|" + line.substring(0, line.indexOf(' ')) + " ; .", 5);
    }

    private static void tooManyLines() {
        Check.sentence("5 CAMERAS");
        most("", "camera x# 1 1;", 5, 0);
        Check.sentence("6 FLASHES");
        most(BASE, "flash a 1 b 1;", 6, 1);
        Check.sentence("4 SIDES");
        most("", "side x# 1;", 4, 2);
        Check.sentence("5 KINDS");
        most("", "kind x# 1 0 before 1;", 5, 3);
        Check.sentence("3 BOARDS");
        most(BASE, "board x# 1(a);", 3, 4);
        Check.sentence("8 PLAYS");
        most(BASE, "play x# 1 k s 1 no;", 8, 5);
        Check.sentence("most of all sorts at once");
        StringBuilder all = new StringBuilder();
        for (char c = 'a'; c < 'f'; c++) {
            all.append("camera ").append(c).append(" 1 1;kind k").append(c).append(" 1 0 before 1;");
            all.append(c < 'e' ? "side s" + c + " 1;" : "").append(c < 'd' ? "board b" + c + " 1(a);" : "");
        }
        for (char c = 'a'; c < 'i'; c++) {
            all.append("play p").append(c).append(" 1 ke sd 1 no;");
        }
        Check.fine(all.toString(), 8);
        Check.fine(all + "flash e 1 a 1;flash a 1 e 1;", 8);
        String camera = "camera e 1 1;";
        String lastTold = all.toString().replace(camera, "") + camera;
        Check.fine(lastTold + "flash a 1 e 1;", 8);
        Check.fault(lastTold + "flash a 1 |ph 1;", 4);
        for (String line : new String[] {"camera", "side", "kind", "board", "play"}) {
            Check.fault(all + "|" + line + " z", 5);
        }
    }

    private static void tooManyParts() {
        Check.sentence("3 PAIRS of each (5: the WORD and of a fourth PAIR)");
        String three = "kind z 1 0 before 1 and 1 before 2 and 2 before 3";
        due("three pairs", Check.told(three + ";").kind(0, 3), 3);
        Check.fault(three + " |and 0 before 3;", 5);
        Check.fault(three + " |and", 5);
        Check.fault(three + " |and 9 before .", 5);
        Check.fine(three + ";" + three.replace('z', 'y') + ";", 0);
        Check.sentence("7 MEMBERS of each (5: ( of an eighth MEMBER)");
        String seven = BASE + "board c 2(a)(b)(a)(b)(a)(b)(a)";
        Check.fine(seven + ";", 0);
        Check.fault(seven + "|(a);", 5);
        Check.fault(seven + "|(", 5);
        Check.fault(seven + "|(z .", 5);
        Check.fine(seven + ";board d 1(a)(b)(a)(b)(a)(b)(a);", 0);
        due("the seventh votes", Check.told(seven + ";play p 1 k s 1 no a 1!0?1;").votes(0, 0), 85);
        Check.sentence("10 FRAMES of each (5: the NAME of an eleventh FRAME)");
        String ten = PLAY + "a 0 a 1 a 2 a 3 a 4 a 5 a 6 a 7 a 8 b 9!3";
        ReplayBooth x = Check.told(ten + ";");
        due("ten frames", x.play(0, 5), 10);
        due("the tenth", x.frame(0, 9, 2), 8);
        Check.fault(ten + " |a 1;", 5);
        Check.fault(ten + " |b", 5);
        Check.fault(ten + " |a 1000 .", 5);
        Check.fine(ten + ";play q 1 k s 1 no a 0 a 1 a 2 a 3 a 4 a 5 a 6 a 7 a 8 a 9;", 2);
    }

    private static void toldTwice() {
        for (String own : new String[] {"limit", "bonus", "last", "window"}) {
            Check.sentence("5: the first WORD of a LINE of a second " + own);
            Check.fault(own + " 5;|" + own + " 5;", 5);
            Check.fault(own + " 0;|" + own + " 6;", 5);
            Check.fault(own + " 5;" + BASE + "|" + own, 5);
            Check.fault(own + " 5;|" + own + " 1000;", 5);
            for (String other : new String[] {"limit", "bonus", "last", "window"}) {
                if (!other.equals(own)) {
                    Check.fine(own + " 5;" + other + " 6;", 0);
                    Check.fault(own + " 5;" + other + " 6;|" + own + " 5;", 5);
                }
            }
            ReplayBooth x = Check.told(own + " 5;");
            due("told anew it is the first", Check.tell(x, own + " 6;"), 0);
            Check.tell(x, own + " 7;.");
            due("told behind a fault it is the first", Check.tell(x, own + " 8;"), 0);
        }
    }

    private static void numbered() {
        Check.sentence("numbered from 0 on, as told");
        ReplayBooth x = Check.told("side x 1;camera d 4 4;side v 2;camera a 1 1;kind z 9 0 before 1;kind y 8 0 before 1;"
                + "board q 1(d);board c 2(a);play p 1 y v 1 no a 1!0?1 d 1;play o 1 z x 2 no d 2!0?1;");
        due("camera 0", x.camera(0, 0), 4);
        due("camera 1", x.camera(1, 0), 1);
        due("side 0", x.side(0, 0), 1);
        due("side 1", x.side(1, 0), 2);
        due("kind 0", x.kind(0, 0), 9);
        due("kind 1", x.kind(1, 0), 8);
        due("kind of play 0", x.play(0, 1), 1);
        due("side of play 0", x.play(0, 2), 1);
        due("kind of play 1", x.play(1, 1), 0);
        due("side of play 1", x.play(1, 2), 0);
        due("frame 0", x.frame(0, 0, 0), 1);
        due("frame 1", x.frame(0, 1, 0), 0);
        due("board 0", x.votes(0, 1), 1);
        due("board 1", x.votes(1, 0), 1);
    }

    // ---- faults

    private static void leastPlace() {
        Check.sentence("FAULTS, the one whose place is least");
        Check.fault("side a 1;side |a 77;flash", 2);
        Check.fault("side a |77;side a", 3);
        Check.fault("flash |a 1000 a .", 4);
        Check.fault("side a 1|.;side a", 1);
        Check.fault("limit 1;|limit 1000;.", 5);
        Check.fault("camera a 9 |8 side", 3);
        Check.fault("|abcdefg a 77;side a", 1);
        Check.fault("side a 1 |side a 77", 1);
        Check.fault("play p 1 |k s 100 maybe", 4);
        Check.fault(BASE + "play p 1 k s |100 maybe", 3);
        Check.fault(BASE + "play |a 1000 z z 100 maybe", 2);
        Check.fault(BASE + "board c |0 a", 3);
        Check.fault(BASE + "kind z |0 0 before 0 and .", 3);
    }

    private static void firstOfTheList() {
        String ten = PLAY + "a 1 a 1 a 1 a 1 a 1 a 1 a 1 a 1 a 1 a 1";
        Check.sentence("of one place the first of this list: 1 ahead of 5");
        Check.fault(ten + " |abcdefg 1;", 1);
        Check.fault(ten + " |limit 1;", 1);
        Check.fault("limit 1;|limits 1;", 1);
        Check.sentence("of one place the first of this list: 1 ahead of 2");
        Check.fault("side abcdef 1;side |abcdefg 1;", 1);
        Check.sentence("of one place the first of this list: 1 ahead of 3");
        Check.fault("side a |10000;", 1);
        Check.sentence("of one place the first of this list: 1 ahead of 4");
        Check.fault(BASE + "flash |camera 1 b 1;", 1);
        Check.fault(BASE + "flash |abcdefg 1 b 1;", 1);
        Check.sentence("of one place the first of this list: 4 ahead of 5");
        Check.fault(ten + " |z 1;", 4);
        Check.fault(ten + " |p 1;", 4);
        Check.fault(ten + " |s 1;", 4);
    }

    private static void theEnd() {
        Check.sentence("1: the end: how many bytes there are");
        String[] heads = {"camera", "camera z", "camera z 1", "camera z 1 2", BASE + "flash a 1 b", BASE + "flash a",
            "side z 1", "kind z 1 forced", "kind z 1 0", "kind z 1 0 before", "kind z 1 0 before 1", "limit", "limit 5",
            "kind z 1 0 before 1 and", BASE + "board c 1", BASE + "board c 1(", BASE + "board c 1(a", PLAY + "a",
            BASE + "board c 1(a)", BASE + "play p 1 k s 1", PLAY, PLAY + "a 1", PLAY + "a 1!", PLAY + "a 1?0"};
        for (String head : heads) {
            Check.fault(head + "|", 1);
            Check.fault(head + " \n |", 1);
        }
        ReplayBooth x = new ReplayBooth();
        String full = "side s 1" + " ".repeat(592);
        due("the end of 600", Check.tell(x, full), -2 - (8 * 600 + 1));
    }

    private static void tokensThatGoNowhere() {
        Check.sentence("1: TOKEN with which no TEXT goes on (its first byte)");
        for (String text : new String[] {"|7;", "|(;", "|);", "|!;", "|?;", "|;", "|abc 1;", "|forced;", "|again;",
            "|before;", "|and;", "|yes;", "|no;", "side |7 1;", "side |; 1", "side z |z;", "side z |;", "side z 1 |1;",
            "side z 1|(;", "camera z 1|;", "camera z 1 |y;", "camera z 1 2 |3;", "kind z 1 |before 1;", "kind z 1 0 |1;",
            "kind z 1 0 before |and;", "kind z 1 0 before 1 |1;", "kind z 1 0 before 1 and |;", "limit |;", "limit |z;"}) {
            Check.fault(text, 1);
        }
        for (String tail : new String[] {"|1;", "|(;", "|!0;", "|?0;", "a|;", "a |b;", "a |!0;", "a 1 |1;", "a 1|(;",
            "a 1!|a;", "a 1!|;", "a 1?|(;", "a 1!0 |1;", "a 1!0|);"}) {
            Check.fault(PLAY + tail, 1);
        }
    }
}
