import java.util.ArrayList;
import java.util.Arrays;
import java.util.List;
import java.util.Random;

/**
 * What FRAMES make sure of, with LATES and ticks from all of 0 to 999: Reference tries LATES one by
 * one and would take too long there. Each text is written down as plain inequalities too, from which
 * shortest ways tell what is due.
 */
public final class WideTest {
    private static final int TEXTS = 12000;
    private static final int[] WIDTHS = {0, 3, 50, 999};

    /** Of an inequality: number high is above number low by so much at most. */
    private record Above(int high, int low, int most) {
    }

    private record Frame(int camera, List<Above> says) {
    }

    private static final int ZERO = 0;
    private static final int CAMERA = 1;
    private static final int MARK = 6;
    private static final int NUMBERS = 10;
    private static final long FREE = Long.MAX_VALUE / 4;

    private final Random dice;
    private final StringBuilder text = new StringBuilder();
    private final List<Above> clocks = new ArrayList<>();
    private final List<Frame> frames = new ArrayList<>();
    private final List<int[]> pairs = new ArrayList<>();
    private final int[] real = new int[5];
    private int cameras;

    private WideTest(int seed) {
        dice = new Random(seed);
    }

    public static void main(String[] args) {
        furthest();
        tornByFar();
        for (int seed = 0; seed < TEXTS; seed++) {
            WideTest one = new WideTest(seed);
            one.make();
            one.hold();
        }
        Check.end("WideTest");
    }

    // ---- by hand

    /** The furthest that two moments can be apart while there is still a bound. */
    private static void furthest() {
        ReplayBooth x = Check.told("camera a 0 999;camera b 0 999;side s 0;kind k 1 0 before 1;"
                + "play p 0 k s 0 no a 0?0 b 999!1;play q 0 k s 0 no a 0?0 a 999!1;");
        Check.due("gap most over two clocks", x.gap(0, 0, 1, true), 1997);
        Check.due("gap least the other way", x.gap(0, 1, 0, false), -1997);
        Check.due("gap most over one clock", x.gap(1, 0, 1, true), 998);
        Check.due("gap least is not bounded", x.gap(0, 0, 1, false), 1000000);
    }

    private static void tornByFar() {
        ReplayBooth x = Check.told("camera a 0 0;camera b 999 999;camera c 0 999;side s 0;kind k 1 0 before 1;"
                + "play p 0 k s 0 no a 999?0 b 0!0;play q 0 k s 0 no c 999?0 c 0!0;");
        Check.due("torn by all that two clocks can tell", x.verdict(0, 2), 3);
        Check.due("torn by one clock's whole day", x.verdict(1, 2), 3);
        ReplayBooth y = Check.told("camera a 0 0;camera b 0 0;flash a 999 b 0;");
        Check.due("no LATES, the least", y.camera(0, 2), -2);
        Check.due("no LATES, the greatest", y.camera(1, 3), -2);
    }

    // ---- texts

    private int roll(int least, int most) {
        return least + dice.nextInt(most - least + 1);
    }

    private boolean odds(int oneIn) {
        return dice.nextInt(oneIn) == 0;
    }

    private static char name(int camera) {
        return (char) ('a' + camera);
    }

    private void make() {
        cameras = roll(1, 5);
        int width = WIDTHS[dice.nextInt(WIDTHS.length)];
        for (int c = 0; c < cameras; c++) {
            camera(c, width);
        }
        for (int flashes = cameras > 1 ? roll(0, 6) : 0; flashes > 0; flashes--) {
            flash();
        }
        text.append("side s 0;kind k 1 ");
        for (int more = roll(0, 2); more >= 0; more--) {
            int first = roll(0, 3);
            int second = (first + roll(1, 3)) % 4;
            pairs.add(new int[] {first, second});
            text.append(first).append(" before ").append(second).append(more > 0 ? " and " : ";");
        }
        text.append("play p 0 k s 0 no");
        int[] moments = new int[4];
        for (int m = 0; m < 4; m++) {
            moments[m] = roll(0, 20) + (odds(2) ? 0 : 500 - real[0]);
        }
        for (int more = roll(0, 10); more > 0; more--) {
            frame(moments);
        }
        text.append(';');
    }

    private void camera(int c, int width) {
        int least = roll(0, 999);
        int most = Math.min(999, least + roll(0, width));
        real[c] = roll(least, most);
        text.append("camera ").append(name(c)).append(' ').append(least).append(' ').append(most).append(';');
        clocks.add(new Above(CAMERA + c, ZERO, -least));
        clocks.add(new Above(ZERO, CAMERA + c, most));
    }

    private void flash() {
        int a = dice.nextInt(cameras);
        int b = (a + roll(1, cameras - 1)) % cameras;
        int moment = roll(-999, 999);
        int s = moment + real[a];
        int t = moment + real[b] + (odds(15) ? roll(-400, 400) : 0);
        if (s < 0 || s > 999 || t < 0 || t > 999) {
            return;
        }
        text.append("flash ").append(name(a)).append(' ').append(s).append(' ').append(name(b)).append(' ').append(t)
                .append(';');
        clocks.add(new Above(CAMERA + a, CAMERA + b, t - s));
        clocks.add(new Above(CAMERA + b, CAMERA + a, s - t));
    }

    private void frame(int[] moments) {
        int c = dice.nextInt(cameras);
        int near = moments[dice.nextInt(4)] + real[c] + roll(-4, 4);
        int tick = odds(3) ? roll(0, 999) : Math.max(0, Math.min(999, near));
        StringBuilder told = new StringBuilder(" ").append(name(c)).append(' ').append(tick);
        Frame frame = new Frame(c, new ArrayList<>());
        for (int m = 0; m < 4; m++) {
            if (odds(2)) {
                boolean there = moments[m] <= tick - real[c] != odds(40);
                told.append(there ? '!' : '?').append(m);
                frame.says.add(there ? new Above(MARK + m, CAMERA + c, tick)
                        : new Above(CAMERA + c, MARK + m, -tick - 1));
            }
        }
        if (text.length() + told.length() < 600) {
            text.append(told);
            frames.add(frame);
        }
    }

    // ---- what is due

    private List<Above> by(int set) {
        List<Above> all = new ArrayList<>(clocks);
        for (int k = 0; k < frames.size(); k++) {
            if ((set >> k & 1) != 0) {
                all.addAll(frames.get(k).says);
            }
        }
        return all;
    }

    /** The numbers as far above the one they are counted from as can be; false if that has no end. */
    private static boolean settle(List<Above> all, long[] most) {
        for (int round = 0; round <= NUMBERS; round++) {
            boolean changed = false;
            for (Above one : all) {
                if (most[one.low] < FREE && most[one.low] + one.most < most[one.high]) {
                    most[one.high] = most[one.low] + one.most;
                    changed = true;
                }
            }
            if (!changed) {
                return true;
            }
        }
        return false;
    }

    private static boolean canBe(List<Above> all, Above... more) {
        List<Above> with = new ArrayList<>(all);
        with.addAll(Arrays.asList(more));
        return settle(with, new long[NUMBERS]);
    }

    /** How far number high is above number low at most. */
    private static long apart(List<Above> all, int high, int low) {
        long[] most = new long[NUMBERS];
        Arrays.fill(most, FREE);
        most[low] = 0;
        settle(all, most);
        return most[high];
    }

    private int verdict(int set) {
        List<Above> all = by(set);
        if (!canBe(all)) {
            return 3;
        }
        boolean canFail = false;
        Above[] hold = new Above[pairs.size()];
        for (int i = 0; i < hold.length; i++) {
            int first = MARK + pairs.get(i)[0];
            int second = MARK + pairs.get(i)[1];
            canFail |= canBe(all, new Above(second, first, 0));
            hold[i] = new Above(first, second, -1);
        }
        if (!canFail) {
            return 1;
        }
        return canBe(all, hold) ? 2 : 0;
    }

    private void hold() {
        ReplayBooth x = Check.told(text.toString());
        int all = (1 << frames.size()) - 1;
        clocks(x);
        for (int n = 0; n <= frames.size(); n++) {
            due("verdict of " + n, x.verdict(0, n), verdict((1 << n) - 1));
        }
        for (int some = 0; some < 1 << cameras; some++) {
            due("by " + some, x.by(0, some), verdict(of(some)));
        }
        gaps(x, by(all));
        if (frames.size() <= 6) {
            fewest(x, all);
        }
    }

    private void due(String call, long got, long want) {
        Check.due(text + "\n" + call, got, want);
    }

    private int of(int some) {
        int set = 0;
        for (int k = 0; k < frames.size(); k++) {
            set |= (some >> frames.get(k).camera & 1) << k;
        }
        return set;
    }

    private void clocks(ReplayBooth x) {
        boolean can = canBe(clocks);
        for (int c = 0; c < cameras; c++) {
            due("LATE at least of " + c, x.camera(c, 2), can ? -apart(clocks, CAMERA + c, ZERO) : -2);
            due("LATE at most of " + c, x.camera(c, 3), can ? apart(clocks, ZERO, CAMERA + c) : -2);
        }
    }

    private void gaps(ReplayBooth x, List<Above> whole) {
        boolean can = canBe(whole);
        for (int a = 0; a < 4; a++) {
            for (int b = 0; b < 4; b++) {
                long far = can ? apart(whole, MARK + b, MARK + a) : 0;
                due("gap " + a + " " + b + " most", x.gap(0, a, b, true), gap(can, far, far));
                due("gap " + b + " " + a + " least", x.gap(0, b, a, false), gap(can, far, -far));
            }
        }
    }

    private static long gap(boolean can, long far, long bound) {
        if (!can) {
            return 2000000;
        }
        return far >= FREE / 2 ? 1000000 : bound;
    }

    private void fewest(ReplayBooth x, int all) {
        int whole = verdict(all);
        int fewest = -1;
        int mend = -1;
        int key = 0;
        for (int set = 0; set <= all; set++) {
            fewest = fewer(set, fewest) && verdict(set) == whole ? set : fewest;
            mend = fewer(set, mend) && verdict(all & ~set) != 3 ? set : mend;
            key |= Integer.bitCount(set) == 1 && verdict(all & ~set) == 2 ? set : 0;
        }
        due("fewest", x.fewest(0), whole > 1 ? -2 : fewest);
        due("key", x.key(0), whole > 1 ? -2 : key);
        due("mend", x.mend(0), mend < 0 ? -2 : mend);
    }

    private static boolean fewer(int set, int than) {
        return than < 0 || Integer.bitCount(set) < Integer.bitCount(than);
    }
}
