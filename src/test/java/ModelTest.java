import java.util.ArrayList;
import java.util.List;
import java.util.NoSuchElementException;
import java.util.Random;

/** Long runs of calls on texts made at random (always the same ones), against Reference. */
public final class ModelTest {
    private static final int RUNS = 900;
    private static final int CALLS = 505;

    private final Random dice;
    private final ReplayBooth x = new ReplayBooth();
    private final Reference y = new Reference();
    private final StringBuilder story = new StringBuilder();
    private int calls;
    private boolean broken;

    private ModelTest(int seed) {
        dice = new Random(seed);
    }

    public static void main(String[] args) {
        int seen = 0;
        for (int seed = 0; seed < RUNS && seen < 3; seed++) {
            ModelTest run = new ModelTest(seed);
            run.run();
            seen += run.broken ? 1 : 0;
        }
        for (int seed = 0; seed < 4000; seed++) {
            faults(new Random(seed + 100000));
        }
        Check.end("ModelTest");
    }

    private int roll(int least, int most) {
        return least + dice.nextInt(most - least + 1);
    }

    private boolean odds(int percent) {
        return dice.nextInt(100) < percent;
    }

    // ---- runs of calls

    private void run() {
        tell();
        while (calls < CALLS && !broken) {
            if (odds(1) && calls < CALLS - 60) {
                tell();
            }
            int which = dice.nextInt(100);
            if (which < 45) {
                act();
            } else if (which < 70) {
                askDay();
            } else {
                ask();
            }
        }
    }

    private void tell() {
        String text = new TextMaker(dice).make();
        if (text.length() > 600) {
            text = "";
        }
        story.append("\ntext ").append(text);
        int[] n = new int[5];
        for (int from = 0; from < text.length(); from += 20) {
            for (int i = 0; i < 20; i++) {
                n[i / 4] = n[i / 4] << 8 | (from + i < text.length() ? text.charAt(from + i) : 0);
            }
            due("feed", x.feed(n[0], n[1], n[2], n[3], n[4]), y.feed(n[0], n[1], n[2], n[3], n[4]));
        }
        due("text", x.text(text.length()), y.text(text.length()));
    }

    private void due(String call, long got, long want) {
        calls++;
        if (got != want && !broken) {
            broken = true;
            Check.fail(story + "\n" + call + " answered " + got + ", due is " + want);
        }
    }

    private void due(String call, Check.Call got, Check.Call want) {
        due(call, answer(got), answer(want));
    }

    private static long answer(Check.Call call) {
        try {
            return call.answer();
        } catch (NoSuchElementException e) {
            return -99;
        }
    }

    /** Mostly one that there is, now and then one that there is not. */
    private int one(int count) {
        return odds(97) && count > 0 ? dice.nextInt(count) : roll(-1, count);
    }

    private void act() {
        int side = one(x.count(2));
        int board = one(x.count(4));
        int happened = x.count(6);
        calls += 3;
        int play = odds(80) && happened > 0 ? happened - 1 - Math.min(happened - 1, roll(0, 2)) : one(x.count(5));
        int k = odds(95) ? roll(0, 1) : roll(-1, 2);
        boolean back = odds(30);
        switch (dice.nextInt(12)) {
            case 0, 1, 2, 3 -> same("next", () -> x.next(), () -> y.next());
            case 4, 5, 6 -> same("challenge " + side + " " + play, () -> x.challenge(side, play),
                    () -> y.challenge(side, play));
            case 7, 8 -> same("put " + board + " " + play, () -> x.put(board, play), () -> y.put(board, play));
            case 9, 10 -> same("undo", () -> x.undo(), () -> y.undo());
            default -> same("keep " + k + " " + back, () -> x.keep(k, back) ? 1 : 0, () -> y.keep(k, back) ? 1 : 0);
        }
    }

    private void same(String call, Check.Call got, Check.Call want) {
        story.append("\n").append(call);
        due(call, got, want);
    }

    private void askDay() {
        int side = one(y.told.sides.size());
        int play = one(y.told.plays.size());
        int board = one(y.told.boards.size());
        int ago = one(y.day.log.size());
        int to = odds(50) ? y.day.log.size() : one(y.day.log.size() + 1);
        int what = roll(-1, 9);
        int kind = odds(95) ? roll(0, 2) : roll(-1, 3);
        int i = one(y.row.length);
        int minute = play >= 0 && play < y.told.plays.size() && odds(90) ? y.told.plays.get(play).minute : roll(-1, 1000);
        switch (dice.nextInt(11)) {
            case 0 -> same("side " + side + " " + what, () -> x.side(side, what % 5), () -> y.side(side, what % 5));
            case 1 -> same("play " + play + " " + what, () -> x.play(play, what), () -> y.play(play, what));
            case 2 -> same("log " + ago + " " + what, () -> x.log(ago, what % 5), () -> y.log(ago, what % 5));
            case 3 -> same("sheet " + kind + " " + ago + " " + to, () -> x.sheet(kind, ago, to),
                    () -> y.sheet(kind, ago, to));
            case 4 -> same("row " + i, () -> x.row(i), () -> y.row(i));
            case 5 -> same("seconds " + minute, () -> x.seconds(minute), () -> y.seconds(minute));
            case 6 -> same("extra", () -> x.extra(), () -> y.extra());
            case 7 -> same("votes " + board + " " + play, () -> x.votes(board, play), () -> y.votes(board, play));
            case 8 -> same("pivot " + board + " " + play, () -> x.pivot(board, play), () -> y.pivot(board, play));
            case 9 -> same("boards " + play, () -> x.boards(play), () -> y.boards(play));
            default -> {
                int c = roll(-1, 15);
                same("count " + c, () -> x.count(c), () -> y.count(c));
            }
        }
    }

    private void ask() {
        int play = one(y.told.plays.size());
        int side = one(y.told.sides.size());
        int camera = one(y.told.cameras.size());
        int kind = one(y.told.kinds.size());
        int frames = play >= 0 && play < y.told.plays.size() ? y.told.plays.get(play).frames.size() : 3;
        int n = one(frames + 1);
        int what = roll(-1, 4);
        int bits = odds(95) ? dice.nextInt(1 << y.told.cameras.size()) : odds(50) ? 32 : roll(-40, 40);
        int a = odds(95) ? roll(0, 3) : roll(-1, 4);
        int b = odds(95) ? roll(0, 3) : roll(-1, 4);
        boolean most = odds(50);
        switch (dice.nextInt(17)) {
            case 0 -> same("camera " + camera + " " + what, () -> x.camera(camera, what), () -> y.camera(camera, what));
            case 1 -> same("kind " + kind + " " + what, () -> x.kind(kind, what), () -> y.kind(kind, what));
            case 2 -> same("frame " + play + " " + n + " " + what, () -> x.frame(play, n, what),
                    () -> y.frame(play, n, what));
            case 3, 4 -> same("verdict " + play + " " + n, () -> x.verdict(play, n), () -> y.verdict(play, n));
            case 5 -> same("by " + play + " " + bits, () -> x.by(play, bits), () -> y.by(play, bits));
            case 6 -> same("gap " + play + " " + a + " " + b + " " + most, () -> x.gap(play, a, b, most),
                    () -> y.gap(play, a, b, most));
            case 7 -> same("fewest " + play, () -> x.fewest(play), () -> y.fewest(play));
            case 8 -> same("key " + play, () -> x.key(play), () -> y.key(play));
            case 9 -> same("enough " + play, () -> x.enough(play), () -> y.enough(play));
            case 10 -> same("mend " + play, () -> x.mend(play), () -> y.mend(play));
            case 11 -> same("look " + play + " " + what, () -> x.look(play, what), () -> y.look(play, what));
            case 12 -> same("truth " + side, () -> x.truth(side), () -> y.truth(side));
            case 13 -> same("range " + side + " " + most, () -> x.range(side, most), () -> y.range(side, most));
            case 14 -> same("wrong", () -> x.wrong(), () -> y.wrong());
            case 15 -> same("left " + side, () -> x.left(side), () -> y.left(side));
            default -> same("need " + side, () -> x.need(side), () -> y.need(side));
        }
    }

    // ---- texts with faults

    private static void faults(Random dice) {
        String text = new TextMaker(dice).make();
        List<String> parts = new ArrayList<>(List.of(text.split("(?<=[ ;()!?])|(?=[;()!?])")));
        String[] odd = {"a", "b", "s", "k", "p", "and ", "yes ", "no ", "0", "1", "3 ", "4", "1000", "12345", ";", "(",
            ")", "!", "?", "abcdefg", " ", "\n", ".", "camera ", "play ", "limit ", "before ", "forced ", "again ", "`"};
        for (int changes = 1 + dice.nextInt(2); changes > 0; changes--) {
            int at = dice.nextInt(parts.size());
            switch (dice.nextInt(5)) {
                case 0 -> parts.remove(at);
                case 1 -> parts.add(at, odd[dice.nextInt(odd.length)]);
                case 2 -> parts.add(at, parts.get(dice.nextInt(parts.size())));
                case 3 -> parts.set(at, odd[dice.nextInt(odd.length)]);
                default -> parts.set(at, parts.get(dice.nextInt(parts.size())));
            }
            if (parts.isEmpty()) {
                return;
            }
        }
        String changed = String.join("", parts);
        if (changed.length() > 600) {
            return;
        }
        Reference y = new Reference();
        y.tape = changed;
        Check.due("text " + changed, Check.tell(new ReplayBooth(), changed), y.text(changed.length()));
    }
}
