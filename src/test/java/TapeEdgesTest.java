/** THE TAPE, TOKENS and FAULTS (part 1 of the Terms, promises 2 and 3) at their bounds, a sentence a test. */
public final class TapeEdgesTest {
    private static final int BLANKS = 0x20202020;

    /** Each WORD that the document tells, none of which is a NAME. */
    private static final String[] OWN = {"camera", "flash", "side", "kind", "forced", "again", "before", "and", "board",
        "play", "yes", "no", "limit", "bonus", "last", "window"};

    private static final String BASE = "camera a 0 0;camera b 0 0;side s 1;kind k 1 0 before 1;";

    public static void main(String[] args) {
        feedOnAFullTape();
        feedHighestFirst();
        feedHowMany();
        textNotSoMany();
        textBelowZero();
        textOfTheFirstBytes();
        textEmptiesTheTape();
        textHowManyPlays();
        textForgets();
        textOfAFault();
        textOfNothingAhead();
        blanks();
        words();
        numberTokens();
        standTogether();
        signsAlone();
        ownWords();
        namesAlike();
        toldAhead();
        Check.end("TapeEdgesTest");
    }

    private static void due(String call, long got, long want) {
        Check.due(call, got, want);
    }

    private static int feedBlanks(ReplayBooth x) {
        return x.feed(BLANKS, BLANKS, BLANKS, BLANKS, BLANKS);
    }

    private static ReplayBooth fullTape(String lastTwenty) {
        ReplayBooth x = new ReplayBooth();
        for (int i = 0; i < 29; i++) {
            feedBlanks(x);
        }
        Check.feed(x, lastTwenty);
        return x;
    }

    // ---- promise 2

    private static void feedOnAFullTape() {
        Check.sentence("feed: NONE, and none come, if it would have more than 600");
        ReplayBooth x = fullTape("side s 3;           ");
        due("bytes", x.count(9), 600);
        due("feed on 600", x.feed(0, 0, 0, 0, 0), -1);
        due("feed on 600 again", x.feed(-1, -1, -1, -1, -1), -1);
        due("bytes", x.count(9), 600);
        due("text(600)", x.text(600), 0);
        due("its last line", x.side(0, 0), 3);
        ReplayBooth y = new ReplayBooth();
        for (int i = 1; i <= 30; i++) {
            due("feed " + i, feedBlanks(y), 20 * i);
        }
    }

    /** A byte that begins no TOKEN shows by the place of its FAULT where it came. */
    private static void feedHighestFirst() {
        Check.sentence("feed: of each number the highest first");
        for (int place = 0; place < 20; place++) {
            for (int sign : new int[] {1, 127, 128, 255}) {
                int[] n = {BLANKS, BLANKS, BLANKS, BLANKS, BLANKS};
                int shift = 24 - 8 * (place % 4);
                n[place / 4] = n[place / 4] & ~(255 << shift) | sign << shift;
                ReplayBooth x = new ReplayBooth();
                x.feed(n[0], n[1], n[2], n[3], n[4]);
                due("byte " + sign + " at " + place, x.text(20), -2 - (8 * place + 1));
            }
        }
    }

    private static void feedHowMany() {
        Check.sentence("feed: Twenty bytes come behind THE TAPE: how many it has");
        ReplayBooth x = new ReplayBooth();
        due("the first", feedBlanks(x), 20);
        due("the second", feedBlanks(x), 40);
        due("a text of some", x.text(1), 0);
        due("on an empty tape", feedBlanks(x), 20);
        ReplayBooth y = new ReplayBooth();
        Check.feed(y, "side s 1;side t 2;  side u 3;");
        due("in their order", y.text(29), 0);
        due("the first side", y.side(0, 0), 1);
        due("the last side", y.side(2, 0), 3);
    }

    // ---- promise 3

    private static void textNotSoMany() {
        Check.sentence("text: NONE: it has not so many (THE TAPE stays)");
        ReplayBooth x = new ReplayBooth();
        due("one of none", x.text(1), -1);
        Check.feed(x, "side s 1;side t 1;  ");
        due("one too many", x.text(21), -1);
        due("greatest", x.text(Integer.MAX_VALUE), -1);
        due("bytes", x.count(9), 20);
        due("sides", x.count(2), 0);
        due("all of them", x.text(20), 0);
        due("sides", x.count(2), 2);
        due("601 of 600", fullTape("side s 3;           ").text(601), -1);
    }

    private static void textBelowZero() {
        Check.sentence("text: NONE: n is below 0 (THE TAPE stays)");
        ReplayBooth x = Check.told("side s 1;");
        due("-1 of none", x.text(-1), -1);
        Check.feed(x, "side t 1;side u 1;  ");
        due("-1", x.text(-1), -1);
        due("-20", x.text(-20), -1);
        due("lowest", x.text(Integer.MIN_VALUE), -1);
        due("bytes", x.count(9), 20);
        due("sides", x.count(2), 1);
        due("all of them", x.text(20), 0);
        due("sides", x.count(2), 2);
    }

    private static void textOfTheFirstBytes() {
        Check.sentence("text: The first n bytes of THE TAPE are the TEXT");
        String tape = "side s 1;side t 23; ";
        int[] sides = {0, -1, -1, -1, -1, -1, -1, -1, -1, 1, -1, -1, -1, -1, -1, -1, -1, -1, -1, -1, -1};
        int[] kinds = {0, 1, 1, 1, 1, 1, 1, 1, 1, 0, 1, 1, 1, 1, 1, 1, 1, 1, 3, 3, 3};
        int[] places = {0, 0, 0, 0, 4, 5, 6, 7, 8, 0, 9, 9, 9, 13, 14, 15, 16, 17, 16, 16, 16};
        for (int n = 0; n <= 20; n++) {
            ReplayBooth x = new ReplayBooth();
            Check.feed(x, tape);
            due("text " + n, x.text(n), sides[n] >= 0 ? 0 : -2 - (8 * places[n] + kinds[n]));
            due("sides of text " + n, x.count(2), Math.max(sides[n], 0));
        }
    }

    private static void textEmptiesTheTape() {
        Check.sentence("text: it is empty then");
        ReplayBooth x = new ReplayBooth();
        Check.feed(x, "side s 1;side t 1;");
        x.text(9);
        due("bytes", x.count(9), 0);
        due("text(1)", x.text(1), -1);
        due("feed", feedBlanks(x), 20);
        due("text(0)", x.text(0), 0);
        due("bytes behind text(0)", x.count(9), 0);
        ReplayBooth full = fullTape("side s 3;           ");
        full.text(600);
        due("feed behind a full one", feedBlanks(full), 20);
    }

    private static void textHowManyPlays() {
        Check.sentence("text: how many PLAYS");
        Check.fine("", 0);
        Check.fine(BASE, 0);
        Check.fine(BASE + "play p 1 k s 1 no;", 1);
        StringBuilder eight = new StringBuilder(BASE);
        for (char c = 'a'; c < 'i'; c++) {
            eight.append("play x").append(c).append(" 1 k s 1 no;");
        }
        Check.fine(eight.toString(), 8);
    }

    private static void textForgets() {
        String text = BASE + "board c 1(a);bonus 1;play p 1 k s 5 no a 1!0?1;play q 2 k s 3 no;limit 9;last 8;window 7;"
                + "flash a 1 b 1;";
        ReplayBooth x = Check.told(text);
        String before = Check.day(x);
        x.next();
        x.challenge(0, 0);
        x.put(0, 0);
        x.keep(0, false);
        x.keep(1, false);
        Check.sentence("text: nothing has happened");
        due("the same once more", Check.tell(x, text), 2);
        Check.same("told anew", Check.day(x), before);
        Check.sentence("text: nothing can be UNDONE");
        due("undo", x.undo(), -1);
        Check.sentence("text: nothing is KEPT");
        Check.due("keep 0 back", x.keep(0, true), false);
        Check.due("keep 1 back", x.keep(1, true), false);
        Check.sentence("text: the TEXT from now on, an empty one too");
        due("text(0)", x.text(0), 0);
        int[] counts = {0, 0, 0, 0, 0, 0, 0, 0, 0, 0, 0, 60, 0, 1000, 1};
        for (int what = 0; what < counts.length; what++) {
            due("count " + what, x.count(what), counts[what]);
        }
        due("next", x.next(), -1);
    }

    private static void textOfAFault() {
        Check.sentence("text: a FAULT (all else stays)");
        ReplayBooth x = Check.told(BASE + "board c 1(a);bonus 1;play p 1 k s 5 no a 1!0?1;play q 2 k s 3 no;window 7;");
        x.next();
        x.challenge(0, 0);
        x.keep(1, false);
        x.next();
        x.sheet(2, 0, 1);
        String before = Check.day(x);
        String other = "camera z 1 1;side y 1;kind x 9 1 before 2;board w 2(z);"
                + "play v 1 x y 1 yes z 1!2;limit 4;bonus 4;last 4;window 4;flash";
        due("a fault behind all", Check.tell(x, other), -2 - (8 * other.length() + 1));
        Check.same("behind a fault", Check.day(x), before);
        int[] counts = {2, 0, 1, 1, 1, 2, 2, 1, 3, 0, 1, 60, 1, 1000, 7};
        for (int what = 0; what < counts.length; what++) {
            due("count " + what, x.count(what), counts[what]);
        }
        due("the kind", x.kind(0, 0), 1);
        due("verdict", x.verdict(0, 1), 1);
        due("board", x.boards(1), 0);
        due("row", x.row(0), 1);
        due("undo", x.undo(), 2);
        Check.due("the keep", x.keep(1, true), true);
        Check.due("the empty keep", x.keep(0, true), false);
        due("happened", x.count(6), 1);
    }

    /** All that can be seen of a small TEXT: some hundred calls. */
    private static String seen(ReplayBooth x) {
        StringBuilder seen = new StringBuilder();
        for (int what = 0; what < 15; what++) {
            seen.append(what == 9 || what == 10 ? "" : " count " + x.count(what));
        }
        for (int what = 0; what < 4; what++) {
            for (int i = 0; i < 2; i++) {
                seen.append(' ').append(x.camera(i, what)).append(' ').append(x.kind(i, what)).append(' ').append(x.side(i, what));
                seen.append(' ').append(x.frame(i, 0, what)).append(' ').append(x.frame(i, 1, what));
            }
        }
        for (int play = 0; play < 2; play++) {
            for (int what = 0; what < 9; what++) {
                seen.append(' ').append(x.play(play, what));
            }
            seen.append(' ').append(x.verdict(play, 2)).append(' ').append(x.fewest(play)).append(' ').append(x.mend(play));
            seen.append(' ').append(x.votes(0, play)).append(' ').append(x.boards(play)).append(' ').append(x.look(play, 1));
        }
        return seen.toString();
    }

    private static void textOfNothingAhead() {
        Check.sentence("text: the TEXT from now on: nothing is left of those ahead");
        String large = "camera a 1 9;camera b 9 9;camera e 3 4;side s 9;side t 8;side u 7;limit 9;bonus 9;last 9;window 9;"
                + "kind k 9 forced again 0 before 1 and 1 before 2 and 2 before 3;kind l 8 forced again 3 before 2;"
                + "flash a 1 b 99;board c 9(a)(b)(e)(a)(b)(a)(e);board d 9(a)(b)(e)(a)(b)(a)(b);"
                + "play p 9 l t 9 yes a 9!0!1!2!3 a 8!0!1!2!3 a 7?0;play q 9 l t 9 yes e 9!0!1!2!3 e 8?1 e 1!1;";
        String small = "camera a 1 1;camera b 0 2;side s 1;side v 2;kind k 20 0 before 1;kind m 10 1 before 0;board c 1(b)(a);"
                + "play p 1 k s 3 no a 5!0 a 6?1;play q 2 m v 4 yes b 5?0 a 8!0;";
        String fresh = seen(Check.told(small));
        ReplayBooth x = new ReplayBooth();
        for (int i = 0; i < 3; i++) {
            due("a large one", Check.tell(x, large), 2);
        }
        for (int i = 0; i < 2; i++) {
            due("a small one", Check.tell(x, small), 2);
            Check.same("behind a large one", seen(x), fresh);
        }
        ReplayBooth y = new ReplayBooth();
        for (int i = 0; i < 2; i++) {
            due("a fault", Check.tell(y, large + "."), -2 - (8 * large.length() + 1));
            due("a small one", Check.tell(y, small), 2);
            Check.same("behind a fault", seen(y), fresh);
        }
        Check.sentence("a NAME of a TEXT ahead is none of this one");
        due("a camera", Check.tell(x, "flash a"), -2 - (8 * 6 + 4));
        due("a kind", Check.tell(x, "play p 1 k"), -2 - (8 * 9 + 4));
        due("all names anew", Check.tell(x, small), 2);
        due("a second camera", Check.tell(x, "camera b 1 1;flash b 1 a"), -2 - (8 * 23 + 4));
        due("a side", Check.tell(x, "camera z 1 1;kind k 1 0 before 1;play p 1 k s"), -2 - (8 * 44 + 4));
    }

    // ---- tokens

    private static String with(String head, int sign, String tail) {
        return head + (char) sign + tail;
    }

    private static boolean isLetter(int sign) {
        return sign >= 'a' && sign <= 'z';
    }

    private static boolean isDigit(int sign) {
        return sign >= '0' && sign <= '9';
    }

    private static void blanks() {
        Check.sentence("Blanks, 32, 10, part TOKENS and mean nothing else; all else are no TOKENS");
        for (int sign = 0; sign < 256; sign++) {
            boolean blank = sign == 32 || sign == 10;
            int ahead = blank ? 0 : -2 - 1;
            due("ahead: " + sign, Check.tell(new ReplayBooth(), with("", sign, "side s 1;")), ahead);
            int inWord = blank || isDigit(sign) ? -2 - (8 * 7 + 1) : isLetter(sign) ? 0 : -2 - (8 * 6 + 1);
            due("in a word: " + sign, Check.tell(new ReplayBooth(), with("side a", sign, "c 1;")), inWord);
            int behind = blank ? 0 : isDigit(sign) ? -2 - (8 * 7 + 3) : -2 - (8 * (sign == ';' ? 9 : 8) + 1);
            due("behind: " + sign, Check.tell(new ReplayBooth(), with("side s 1", sign, ";")), behind);
        }
        Check.fine("\n  \n\nside\n s  1 \n;\n", 0);
        Check.fine(" \n \n", 0);
    }

    private static void words() {
        Check.sentence("WORDS: small letters, 1 to 6 (longer ones are no TOKENS)");
        Check.fine("side a 1;side z 1;", 0);
        Check.fine("side abcdef 1;side zzzzzz 1;", 0);
        Check.fault("side |abcdefg 1;", 1);
        Check.fault("side |zzzzzzz 1;", 1);
        Check.fault("|windows 1;", 1);
        Check.fault("|camerax a 1 1;", 1);
        Check.fault("side a|A 1;", 1);
        Check.fault("side |`a 1;", 1);
        Check.fault("side a|{ 1;", 1);
        Check.fault("|" + "w".repeat(600), 1);
        Check.sentence("WORDS of six letters are alike in all six or not at all");
        Check.fine("side abcdef 1;side abcdeg 1;side bbcdef 1;side abcde 1;", 0);
        Check.fault("side abcdef 1;side |abcdef 1;", 2);
        Check.fine("side zzzzzz 1;side zzzzzy 1;side yzzzzz 1;side zzzzz 1;", 0);
    }

    private static void numberTokens() {
        Check.sentence("NUMBERS: digits, 1 to 4 (longer ones are no TOKENS)");
        Check.fine("limit 0;", 0);
        Check.fine("limit 0000;", 0);
        Check.fine("limit 0999;", 0);
        Check.fault("limit |1000;", 3);
        Check.fault("limit |9999;", 3);
        Check.fault("limit |00000;", 1);
        Check.fault("limit |10000;", 1);
        Check.fault("limit 9|/;", 1);
        Check.fault("limit 9|:;", 1);
        Check.fault("limit |4294967301;", 1);
        Check.fault("limit |" + "0".repeat(590), 1);
        due("0070 is 70", Check.told("limit 0070;").count(11), 70);
    }

    private static void standTogether() {
        Check.sentence("WORDS, NUMBERS: each that stand together");
        Check.fine("camera a1 2;side s9;limit5;", 0);
        Check.fine(BASE + "play p1k s 1yes a1!0?1b2;", 1);
        Check.fault("side ab |c 1;", 1);
        Check.fault("limit 1 |2;", 1);
        Check.fault("|sidea 1;", 1);
        Check.fault("|7side a 1;", 1);
    }

    private static void signsAlone() {
        Check.sentence("; ( ) ! ? alone are TOKENS");
        Check.fault("|;", 1);
        Check.fault("side s 1;|;", 1);
        Check.fault(BASE + "board c 1(|(a));", 1);
        Check.fault(BASE + "board c 1(a)|);", 1);
        Check.fault(BASE + "play p 1 k s 1 no a 1!|!0;", 1);
        Check.fault(BASE + "play p 1 k s 1 no a 1?|?0;", 1);
        Check.fault(BASE + "play p 1 k s 1 no a 1!|?0;", 1);
        Check.fault("side s 1|,", 1);
    }

    // ---- names

    private static void ownWords() {
        Check.sentence("A NAME is a WORD but those told here");
        for (String own : OWN) {
            for (String sort : new String[] {"camera", "side", "kind", "board", "play"}) {
                Check.fault(sort + " |" + own + " 1 1", 1);
            }
            Check.fault(BASE + "flash |" + own + " 1 b 1;", 1);
            Check.fault(BASE + "flash a 1 |" + own + " 1;", 1);
            Check.fault(BASE + "board c 1(|" + own + ");", 1);
            Check.fault(BASE + "board c 1(a |" + own + ");", 1);
            Check.fault(BASE + "play p 1 |" + own + " s 1 no;", 1);
            Check.fault(BASE + "play p 1 k |" + own + " 1 no;", 1);
            Check.fault(BASE + "play p 1 k s 1 no |" + own + " 1;", 1);
            String shorter = own.substring(0, own.length() - 1);
            Check.fine("side " + shorter + " 1;side " + own.charAt(0) + "x 1;", 0);
        }
    }

    private static String line(String sort, String name) {
        switch (sort) {
            case "camera":
                return "camera " + name + " 1 1;";
            case "side":
                return "side " + name + " 1;";
            case "kind":
                return "kind " + name + " 1 0 before 1;";
            case "board":
                return "board " + name + " 1(a);";
            default:
                return "play " + name + " 1 k s 1 no;";
        }
    }

    private static void namesAlike() {
        Check.sentence("no two are alike, of whatever sort (2 a NAME given that is there)");
        String[] sorts = {"camera", "side", "kind", "board", "play"};
        for (String first : sorts) {
            for (String second : sorts) {
                Check.fault(BASE + line(first, "zz") + line(second, "|zz"), 2);
                int plays = (first.equals("play") ? 1 : 0) + (second.equals("play") ? 1 : 0);
                Check.fine(BASE + line(first, "zz") + line(second, "zy"), plays);
                Check.fine(BASE + line(first, "zz") + line(second, "z"), plays);
            }
        }
    }

    private static void toldAhead() {
        Check.sentence("CAMERA, KIND, SIDE: the NAME of one that was told ahead (4 a NAME asked for that is none of these)");
        String all = BASE + "board c 1(a);play p 1 k s 1 no;";
        for (String none : new String[] {"s", "k", "c", "p", "z"}) {
            Check.fault(all + "flash |" + none + " 1 b 1;", 4);
            Check.fault(all + "flash a 1 |" + none + " 1;", 4);
            Check.fault(all + "board d 1(|" + none + ");", 4);
            Check.fault(all + "board d 1(a b |" + none + ");", 4);
            Check.fault(all + "play q 1 k s 1 no |" + none + " 1;", 4);
            Check.fault(all + "play q 1 k s 1 no a 1!0 |" + none + " 1;", 4);
        }
        for (String none : new String[] {"a", "s", "c", "p", "q", "z"}) {
            Check.fault(all + "play q 1 |" + none + " s 1 no;", 4);
        }
        for (String none : new String[] {"a", "k", "c", "p", "q", "z"}) {
            Check.fault(all + "play q 1 k |" + none + " 1 no;", 4);
        }
        Check.fault("camera a 1 1;flash a 1 |b 1;camera b 1 1;", 4);
        Check.fault("side s 1;play p 1 |k s 1 no;kind k 1 0 before 1;", 4);
        Check.fault("kind k 1 0 before 1;play p 1 k |s 1 no;side s 1;", 4);
        Check.fault(BASE + "board c 1(|e);camera e 1 1;", 4);
        Check.fine(BASE + "camera e 1 1;flash e 1 a 1;board c 1(e);play p 1 k s 1 no e 1;", 1);
        Check.sentence("4: a second CAMERA like the first one of a flash, too");
        Check.fault(BASE + "flash a 1 |a 1;", 4);
        Check.fault(BASE + "flash b 1 |b 2;", 4);
        Check.fine(BASE + "flash a 1 b 1;flash b 1 a 1;flash a 1 b 1;", 0);
    }
}
