/** Promise 3: where a TEXT has its FAULT, and what kind it is. */
public final class FaultTest {
    private static final String BASE =
            "camera a 0 2;camera b 5 5;side s 1;side t 2;kind k 20 0 before 1;kind f 30 0 before 1;";

    public static void main(String[] args) {
        tokens();
        noTextGoesOn();
        names();
        numbers();
        numbersOfPlays();
        asked();
        tooMany();
        firstOfTheList();
        Check.end("FaultTest");
    }

    private static void fault(String marked, int kind) {
        Check.fault(marked, kind);
    }

    private static void fine(String text, int plays) {
        Check.fine(text, plays);
    }

    private static void tokens() {
        fault("|.", 1);
        fault("|A", 1);
        fault("|`", 1);
        fault("|{", 1);
        fault("|/", 1);
        fault("|:", 1);
        fault("|\u0000", 1);
        fault("|\t", 1);
        fault("|\r", 1);
        fault("|\u00e1", 1);
        fault("|\u0080", 1);
        fault("|\u00ff", 1);
        fault(" \n |#", 1);
        fault("side s 1; |`", 1);
        fault("side s 1;|:", 1);
        fault("|cameras a 1 2;", 1);
        fault("side |abcdefg 1;", 1);
        fault("side |abcdefghijklmnop 1;", 1);
        fine("side abcdef 1;", 0);
        fault("side abcdef 1;side |abcdef 2;", 2);
        fine("side abcdef 1;side abcdeg 2;side bbcdef 3;", 0);
        fault("side s |00001;", 1);
        fault("side s |12345;", 1);
        fault("limit |99999;", 1);
        fine("side s 0009;", 0);
        fault("side s |0010;", 3);
        fault("side s |9999;", 3);
        fine("side s9;side\nt 1 ; \n side u   2;", 0);
        fine("camera a1 2;", 0);
        fault("camera a1|", 1);
        fault("camera a 1 2|", 1);
        fault("camera a 1 2 \n |", 1);
        fault("camera a 1 2;|.", 1);
        fine("", 0);
        fine(" \n", 0);
    }

    private static void noTextGoesOn() {
        fault("|;", 1);
        fault("side s 1;|;", 1);
        fault("|7", 1);
        fault("|(", 1);
        fault("|abc s 1;", 1);
        fault("|forced 1;", 1);
        fault("|yes;", 1);
        for (String word : new String[] {"camera", "flash", "side", "kind", "board", "play", "limit", "bonus",
            "last", "window", "forced", "again", "before", "and", "yes", "no"}) {
            fault("side |" + word + " 1;", 1);
            fault(BASE + "flash |" + word + " 1 b 2;", 1);
        }
        fine("side limi 1;side noo 2;side ye 3;", 0);
        fault("side |1;", 1);
        fault("side s |;", 1);
        fault("side s |t;", 1);
        fault("side s 1 |2;", 1);
        fault("side s 1 |side t 1;", 1);
        fault("camera a 1 |;", 1);
        fault("camera a 1 2 |3;", 1);
        fault("camera a 1 2 |", 1);
        fault(BASE + "flash |;", 1);
        fault(BASE + "flash a |b 1 2;", 1);
        fault(BASE + "flash a 1 |2 b;", 1);
        fault(BASE + "flash a 1 b 2 |!", 1);
        fault("kind k 8 |;", 1);
        fault("kind k 8 |before 1;", 1);
        fault("kind k 8 again |forced 0 before 1;", 1);
        fault("kind k 8 forced |forced 0 before 1;", 1);
        fault("kind k 8 again |again 0 before 1;", 1);
        fault("kind k 8 0 |1;", 1);
        fault("kind k 8 0 |and 1;", 1);
        fault("kind k 8 0 before |;", 1);
        fault("kind k 8 0 before 1 |1 before 2;", 1);
        fault("kind k 8 0 before 1 and |;", 1);
        fault("kind k 8 0 before 1 and |and 1 before 2;", 1);
        fault(BASE + "board c 1|;", 1);
        fault(BASE + "board c |(a);", 1);
        fault(BASE + "board c 1 |a;", 1);
        fault(BASE + "board c 1 (|);", 1);
        fault(BASE + "board c 1 (a |;", 1);
        fault(BASE + "board c 1 (a |(b));", 1);
        fault(BASE + "board c 1 (a) |b;", 1);
        fault(BASE + "board c 1 (a)|);", 1);
        fault(BASE + "board c 1 (a|", 1);
        fault(BASE + "play p 3 k s 7 |maybe;", 1);
        fault(BASE + "play p 3 k s 7 |;", 1);
        fault(BASE + "play p 3 k s 7 yes |no;", 1);
        fault(BASE + "play p 3 k s 7 yes |1;", 1);
        fault(BASE + "play p 3 k s 7 yes |!1;", 1);
        fault(BASE + "play p 3 k s 7 yes a |!1;", 1);
        fault(BASE + "play p 3 k s 7 yes a |;", 1);
        fault(BASE + "play p 3 k s 7 yes a 1 |2;", 1);
        fault(BASE + "play p 3 k s 7 yes a 1!|!1;", 1);
        fault(BASE + "play p 3 k s 7 yes a 1!|;", 1);
        fault(BASE + "play p 3 k s 7 yes a 1!0 |1;", 1);
        fault(BASE + "play p 3 k s 7 yes a 1!0 |(", 1);
        fault(BASE + "play p 3 |7 s 7 yes;", 1);
        fault(BASE + "play p 3 k |7 yes;", 1);
        fault("limit |;", 1);
        fault("limit 5 |6;", 1);
        fault("window|", 1);
        fine(BASE + "play p 3 k s 7 yes;", 1);
        fine(BASE + "play p 3 k s 7 no a 1 a 1 b 2!0?1!2?3 b 3;", 1);
        fine(BASE + "board c 9(a a a b)(b)(b);", 0);
    }

    private static void names() {
        fault("camera a 1 2;camera |a 1 2;", 2);
        fault("side a 1;side |a 1;", 2);
        fault("camera a 1 2;side |a 1;", 2);
        fault("side a 1;kind |a 8 0 before 1;", 2);
        fault("side a 1;camera |a 1 2;", 2);
        fault(BASE + "board |k 1(a);", 2);
        fault(BASE + "board c 1(a);play |c 1 k s 1 no;", 2);
        fault(BASE + "play p 1 k s 1 no;play |p 1 k s 1 no;", 2);
        fault(BASE + "play p 1 k s 1 no;side |p 1;", 2);
        fault("side a 1;side |a", 2);
        fault("side s 1;side |s .", 2);
        fine("side a 1;side aa 1;side aaa 1;", 0);
        StringBuilder all = new StringBuilder();
        for (char c = 'a'; c < 'f'; c++) {
            all.append("camera ").append(c).append(" 1 1;kind k").append(c).append(" 1 0 before 1;");
            all.append(c < 'e' ? "side s" + c + " 1;" : "").append(c < 'd' ? "board b" + c + " 1(a);" : "");
        }
        for (char c = 'a'; c < 'h'; c++) {
            all.append("play p").append(c).append(" 1 ka sa 1 no e 1;");
        }
        fine(all + "play ph 1 ke sd 1 no;", 8);
        fault(all + "play |pg 1 ke sd 1 no;", 2);
        fault(all + "play |bc 1 ke sd 1 no;", 2);
    }

    private static void numbers() {
        fault("camera a |1000 1000;", 3);
        fault("camera a 0 |1000;", 3);
        fault("camera a 3 |2;", 3);
        fine("camera a 3 3;camera b 999 999;camera c 0 0;", 0);
        fault(BASE + "flash a |1000 b 1;", 3);
        fault(BASE + "flash a 1 b |1000;", 3);
        fine(BASE + "flash a 999 b 999;flash b 0 a 0;", 0);
        fault("side s |10;", 3);
        fine("side s 0;side t 9;", 0);
        fault("kind k |0 0 before 1;", 3);
        fault("kind k |61 0 before 1;", 3);
        fault("kind k 1 |4 before 1;", 3);
        fault("kind k 60 0 before |4;", 3);
        fault("kind k 60 0 before |0;", 3);
        fault("kind k 60 0 before 1 and 3 before |3;", 3);
        fine("kind k 60 0 before 1 and 1 before 0 and 0 before 1;kind j 1 3 before 2;", 0);
        fault(BASE + "board c |0(a);", 3);
        fault(BASE + "board c |10(a);", 3);
        fine(BASE + "board c 1(a);board d 9(a);", 0);
        fault("limit |1000;", 3);
        fine("limit 999;", 0);
        fault("bonus |10;", 3);
        fine("bonus 9;", 0);
        fault("last |1000;", 3);
        fine("last 999;", 0);
        fault("window |10;", 3);
        fine("window 9;", 0);
        fine("limit 0;bonus 0;last 0;window 0;", 0);
    }

    private static void numbersOfPlays() {
        fault(BASE + "play p |1000 k s 1 no;", 3);
        fault(BASE + "play p 5 k s 1 no;play q |4 k s 1 no;", 3);
        fine(BASE + "play p 0 k s 0 no;play q 0 k s 99 no;play r 999 k s 1 no;play o 999 k s 1 yes;", 4);
        fault(BASE + "play p 1 k s |100 no;", 3);
        fault(BASE + "play p 1 k s 1 no a |1000;", 3);
        fault(BASE + "play p 1 k s 1 no a 999!|4;", 3);
        fault(BASE + "play p 1 k s 1 no a 1?|4;", 3);
        fault(BASE + "play p 1 k s 1 no a 1!0!|0;", 3);
        fault(BASE + "play p 1 k s 1 no a 1!0?|0;", 3);
        fault(BASE + "play p 1 k s 1 no a 1?3?|3;", 3);
        fault(BASE + "play p 1 k s 1 no a 1?3!2!|3;", 3);
        fault(BASE + "play p 1 k s 1 no a 1!0!1!2!3!|0;", 3);
        fault(BASE + "play p 1 k s 1 no a 1!0!1!2?3?|2;", 3);
        fine(BASE + "play p 1 k s 1 no a 1!0!1!2!3 a 1!0?3;", 1);
    }

    private static void asked() {
        fault("flash |a 1 b 2;", 4);
        fault(BASE + "flash a 1 |a 2;", 4);
        fault(BASE + "flash |c 1 a 2;", 4);
        fault(BASE + "flash a 1 |s 2;", 4);
        fault(BASE + "flash |k 1 a 2;", 4);
        fault(BASE + "board c 1(|c);", 4);
        fault(BASE + "board c 1(a |s);", 4);
        fault(BASE + "play p 1 |p s 1 no;", 4);
        fault(BASE + "play p 1 |s s 1 no;", 4);
        fault(BASE + "play p 1 |a s 1 no;", 4);
        fault(BASE + "play p 1 k |k 1 no;", 4);
        fault(BASE + "play p 1 k |z 1 no;", 4);
        fault(BASE + "play p 1 k s 1 no |z 1;", 4);
        fault(BASE + "play p 1 k s 1 no |s 1;", 4);
        fault(BASE + "play p 1 k s 1 no a 1 |p 1;", 4);
        fault("play p 1 |k s 1 no;kind k 1 0 before 1;", 4);
        fault("camera a 1 1;flash a 1 |b 2;camera b 1 1;", 4);
    }

    private static void tooMany() {
        String five = "camera a 1 1;camera b 1 1;camera c 1 1;camera d 1 1;camera e 1 1;";
        fine(five, 0);
        fault(five + "|camera f 1 1;", 5);
        String flash = "flash a 1 b 1;";
        String six = five + flash + flash + flash + flash + flash + flash;
        fine(six, 0);
        fault(six + "|flash a 1 b 1;", 5);
        String sides = "side s 1;side t 1;side u 1;side v 1;";
        fine(sides, 0);
        fault(sides + "|side w 1;", 5);
        String kinds = "kind f 1 0 before 1;kind g 1 0 before 1;kind h 1 0 before 1;kind i 1 0 before 1;"
                + "kind j 1 0 before 1;";
        fine(kinds, 0);
        fault(kinds + "|kind k 1 0 before 1;", 5);
        String boards = BASE + "board c 1(a);board d 1(a);board e 1(a);";
        fine(boards, 0);
        fault(boards + "|board g 1(a);", 5);
        StringBuilder plays = new StringBuilder(BASE);
        for (char c = 'p'; c < 'p' + 8; c++) {
            plays.append("play x").append(c).append(" 1 k s 1 no;");
        }
        fine(plays.toString(), 8);
        fault(plays + "|play z 1 k s 1 no;", 5);
        fault("limit 5;|limit 6;", 5);
        fault("bonus 5;limit 3;|bonus 5;", 5);
        fault("last 5;|last 6;", 5);
        fault("window 5;side s 1;|window", 5);
        fine("limit 5;bonus 5;last 5;window 5;", 0);
        String three = "kind k 1 0 before 1 and 1 before 2 and 2 before 3";
        fine(three + ";", 0);
        fault(three + " |and 0 before 3;", 5);
        fault(three + " |and", 5);
        String seven = BASE + "board c 1(a)(a)(a)(a)(a)(a)(a)";
        fine(seven + ";", 0);
        fault(seven + "|(a);", 5);
        fault(seven + "|(", 5);
        String ten = BASE + "play p 1 k s 1 no a 1 a 1 a 1 a 1 a 1 a 1 a 1 a 1 a 1 a 1";
        fine(ten + ";", 1);
        fault(ten + " |a 1;", 5);
        fault(ten + "!0!1 |b", 5);
    }

    /** Of one place the kind that stands first, of two places the least one. */
    private static void firstOfTheList() {
        String ten = BASE + "play p 1 k s 1 no a 1 a 1 a 1 a 1 a 1 a 1 a 1 a 1 a 1 a 1";
        fault(ten + " |z 1;", 4);
        fault(ten + " |abcdefg 1;", 1);
        fault(ten + " |limit 1;", 1);
        fault("side a 1;side |a 77;flash", 2);
        fault("side a |77;side a", 3);
        fault("flash |a 1000 a .", 4);
        fault("side a 1|.;side a", 1);
        fault("limit 1;|limit 1000;.", 5);
        fault("camera a 9 |8 side", 3);
    }
}
