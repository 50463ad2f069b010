import java.util.Random;

/** Makes texts without a fault, whose clocks and ticks are near enough to each other to matter. */
final class TextMaker {
    private final Random dice;
    private final StringBuilder out = new StringBuilder();
    private int cameras;
    private int kinds;
    private int sides;

    TextMaker(Random dice) {
        this.dice = dice;
    }

    private int roll(int least, int most) {
        return least + dice.nextInt(most - least + 1);
    }

    private boolean odds(int percent) {
        return dice.nextInt(100) < percent;
    }

    private char camera(int number) {
        return (char) ('a' + number);
    }

    String make() {
        settings();
        int[] real = new int[5];
        cameras = roll(1, odds(80) ? 3 : 5);
        for (int c = 0; c < cameras; c++) {
            int least = roll(0, 6);
            int most = least + roll(0, 2);
            real[c] = roll(least, most);
            out.append("camera ").append(camera(c)).append(' ').append(least).append(' ').append(most).append(';');
        }
        for (int f = odds(50) ? 0 : roll(1, 3); f > 0 && cameras > 1; f--) {
            flash(real);
        }
        sides = roll(1, odds(90) ? 2 : 4);
        for (int s = 0; s < sides; s++) {
            out.append("side ").append((char) ('s' + s)).append(' ').append(odds(20) ? roll(0, 9) : roll(0, 3)).append(';');
        }
        kinds = roll(1, odds(80) ? 2 : 4);
        for (int k = 0; k < kinds; k++) {
            kind(k);
        }
        for (int b = roll(0, 2); b > 0; b--) {
            board(b);
        }
        plays(real);
        return out.toString();
    }

    private void settings() {
        if (odds(60)) {
            out.append("limit ").append(roll(0, 10) * roll(0, 40)).append(";");
        }
        if (odds(60)) {
            out.append("bonus ").append(roll(0, 3)).append(";");
        }
        if (odds(30)) {
            out.append("last ").append(roll(0, 12)).append(';');
        }
        if (odds(60)) {
            out.append("window ").append(odds(70) ? roll(0, 4) : roll(0, 9)).append(" ;\n");
        }
    }

    private void flash(int[] real) {
        int a = dice.nextInt(cameras);
        int b = (a + roll(1, cameras - 1)) % cameras;
        int moment = roll(5, 20);
        int wrong = odds(10) ? roll(-3, 3) : 0;
        out.append("flash ").append(camera(a)).append(' ').append(moment + real[a]).append(' ').append(camera(b))
                .append(' ').append(moment + real[b] + wrong).append(';');
    }

    private void kind(int number) {
        out.append("kind k").append((char) ('a' + number)).append(' ').append(odds(50) ? roll(1, 60) : roll(5, 20));
        out.append(odds(20) ? " forced" : "").append(odds(50) ? " again" : "");
        for (int pairs = odds(60) ? 1 : roll(1, 3); pairs > 0; pairs--) {
            int a = odds(60) ? 0 : roll(0, 3);
            int b = odds(60) && a != 1 ? 1 : (a + roll(1, 3)) % 4;
            out.append(' ').append(a).append(" before ").append(b).append(pairs > 1 ? " and" : ";");
        }
    }

    private void board(int number) {
        out.append("board b").append((char) ('a' + number)).append(' ').append(odds(80) ? roll(1, 3) : roll(1, 9));
        for (int members = roll(1, odds(80) ? 3 : 7); members > 0; members--) {
            out.append('(').append(camera(dice.nextInt(cameras)));
            for (int more = roll(0, 2); more > 0; more--) {
                out.append(' ').append(camera(dice.nextInt(cameras)));
            }
            out.append(')');
        }
        out.append(';');
    }

    private void plays(int[] real) {
        int minute = roll(0, 3);
        for (int p = 0; p < 8; p++) {
            int length = out.length();
            minute += odds(60) ? 0 : roll(0, 6);
            out.append("play p").append((char) ('a' + p)).append(' ').append(minute).append(" k")
                    .append((char) ('a' + dice.nextInt(kinds))).append(' ').append((char) ('s' + dice.nextInt(sides)))
                    .append(' ').append(roll(0, 99)).append(odds(50) ? " yes" : " no");
            int[] moments = {roll(8, 14), roll(8, 14), roll(8, 14), roll(8, 14)};
            for (int k = roll(0, odds(80) ? 4 : 8); k > 0; k--) {
                frame(real, moments);
            }
            out.append(';');
            if (out.length() > 598 || odds(8)) {
                out.setLength(out.length() > 598 ? length : out.length());
                return;
            }
        }
    }

    private void frame(int[] real, int[] moments) {
        int c = dice.nextInt(cameras);
        int tick = roll(8, 22);
        out.append(' ').append(camera(c)).append(' ').append(tick);
        for (int m = 0; m < 4; m++) {
            if (odds(m < 2 ? 70 : 25)) {
                boolean there = moments[m] <= tick - real[c] != odds(5);
                out.append(there ? '!' : '?').append(m);
            }
        }
    }
}
