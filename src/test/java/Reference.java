import java.util.ArrayList;
import java.util.Arrays;
import java.util.HashMap;
import java.util.HashSet;
import java.util.List;
import java.util.Map;
import java.util.NoSuchElementException;
import java.util.Set;

/**
 * The document once more, in the slowest and most literal way: all LATES are tried one by one, THE
 * DAY is copied whole. It shares nothing with the class; ModelTest holds the two together.
 */
final class Reference {
    static final class Fault extends RuntimeException {
        private static final long serialVersionUID = 1L;
        final int code;

        Fault(int place, int kind) {
            super("fault " + kind + " at " + place);
            code = 8 * place + kind;
        }
    }

    static final class Kind {
        int seconds;
        boolean forced;
        boolean again;
        final List<int[]> pairs = new ArrayList<>();
    }

    static final class Frame {
        int camera;
        int tick;
        final Set<Integer> there = new HashSet<>();
        final Set<Integer> notYet = new HashSet<>();
    }

    static final class Board {
        int need;
        final List<Set<Integer>> members = new ArrayList<>();
    }

    static final class Play {
        int minute;
        int kind;
        int side;
        int points;
        int call;
        final List<Frame> frames = new ArrayList<>();
    }

    static final class Told {
        final List<int[]> cameras = new ArrayList<>();
        final List<int[]> flashes = new ArrayList<>();
        final List<Integer> sides = new ArrayList<>();
        final List<Kind> kinds = new ArrayList<>();
        final List<Board> boards = new ArrayList<>();
        final List<Play> plays = new ArrayList<>();
        final Map<String, Integer> settings = new HashMap<>();

        int setting(String name, int without) {
            return settings.getOrDefault(name, without);
        }
    }

    // ---- the text

    private static final Set<String> OWN = new HashSet<>(Arrays.asList("camera", "flash", "side", "kind", "forced",
            "again", "before", "and", "board", "play", "yes", "no", "limit", "bonus", "last", "window"));

    private static final class Parser {
        final List<String> tokens = new ArrayList<>();
        final List<Integer> places = new ArrayList<>();
        int at;
        final Told told = new Told();
        final Map<String, String> sortOf = new HashMap<>();
        final Map<String, Integer> numberOf = new HashMap<>();

        Parser(String text) {
            int i = 0;
            while (i < text.length()) {
                char c = text.charAt(i);
                if (c == ' ' || c == '\n') {
                    i++;
                    continue;
                }
                int j = i;
                String sort = c >= 'a' && c <= 'z' ? "[a-z]" : c >= '0' && c <= '9' ? "[0-9]" : null;
                if (sort == null) {
                    j = i + 1;
                } else {
                    while (j < text.length() && text.substring(j, j + 1).matches(sort)) {
                        j++;
                    }
                }
                String s = text.substring(i, j);
                tokens.add(s.matches("[a-z]{1,6}|[0-9]{1,4}|[;()!?]") ? s : "BAD");
                places.add(i);
                i = j;
            }
            tokens.add("END");
            places.add(text.length());
        }

        String token() {
            return tokens.get(at);
        }

        Fault fault(int kind) {
            return new Fault(places.get(at), kind);
        }

        void expect(String token) {
            if (!token().equals(token)) {
                throw fault(1);
            }
            at++;
        }

        boolean maybe(String token) {
            if (token().equals(token)) {
                at++;
                return true;
            }
            return false;
        }

        int number(int least, int most) {
            if (!token().matches("[0-9]+")) {
                throw fault(1);
            }
            int n = Integer.parseInt(token());
            if (n < least || n > most) {
                throw fault(3);
            }
            at++;
            return n;
        }

        int mark(Set<Integer> without) {
            if (token().matches("[0-9]+") && without.contains(Integer.parseInt(token()))) {
                throw fault(3);
            }
            return number(0, 3);
        }

        void newName(String sort, int number) {
            if (!token().matches("[a-z]+") || OWN.contains(token())) {
                throw fault(1);
            }
            if (sortOf.containsKey(token())) {
                throw fault(2);
            }
            sortOf.put(token(), sort);
            numberOf.put(token(), number);
            at++;
        }

        int oldName(String sort, int unlike, boolean full) {
            if (!token().matches("[a-z]+") || OWN.contains(token())) {
                throw fault(1);
            }
            if (!sort.equals(sortOf.get(token())) || numberOf.get(token()) == unlike) {
                throw fault(4);
            }
            if (full) {
                throw fault(5);
            }
            return numberOf.get(tokens.get(at++));
        }

        void room(boolean there) {
            if (!there) {
                throw fault(5);
            }
            at++;
        }

        Told parse() {
            while (!token().equals("END")) {
                line();
                expect(";");
            }
            return told;
        }

        void line() {
            switch (token()) {
                case "camera" -> camera();
                case "flash" -> flash();
                case "side" -> {
                    room(told.sides.size() < 4);
                    newName("side", told.sides.size());
                    told.sides.add(number(0, 9));
                }
                case "kind" -> kind();
                case "board" -> board();
                case "play" -> play();
                case "limit", "bonus", "last", "window" -> {
                    String name = token();
                    room(!told.settings.containsKey(name));
                    told.settings.put(name, number(0, name.equals("limit") || name.equals("last") ? 999 : 9));
                }
                default -> throw fault(1);
            }
        }

        void camera() {
            room(told.cameras.size() < 5);
            newName("camera", told.cameras.size());
            int least = number(0, 999);
            told.cameras.add(new int[] {least, number(least, 999)});
        }

        void flash() {
            room(told.flashes.size() < 6);
            int c = oldName("camera", -1, false);
            int t = number(0, 999);
            int d = oldName("camera", c, false);
            told.flashes.add(new int[] {c, t, d, number(0, 999)});
        }

        void kind() {
            room(told.kinds.size() < 5);
            newName("kind", told.kinds.size());
            Kind kind = new Kind();
            told.kinds.add(kind);
            kind.seconds = number(1, 60);
            kind.forced = maybe("forced");
            kind.again = maybe("again");
            do {
                int a = mark(Set.of());
                expect("before");
                kind.pairs.add(new int[] {a, mark(Set.of(a))});
                if (token().equals("and") && kind.pairs.size() == 3) {
                    throw fault(5);
                }
            } while (maybe("and"));
        }

        void board() {
            room(told.boards.size() < 3);
            newName("board", told.boards.size());
            Board board = new Board();
            told.boards.add(board);
            board.need = number(1, 9);
            expect("(");
            do {
                if (board.members.size() == 7) {
                    at--;
                    throw fault(5);
                }
                Set<Integer> cameras = new HashSet<>();
                do {
                    cameras.add(oldName("camera", -1, false));
                } while (!maybe(")"));
                board.members.add(cameras);
            } while (maybe("("));
        }

        void play() {
            room(told.plays.size() < 8);
            newName("play", told.plays.size());
            Play play = new Play();
            play.minute = number(told.plays.isEmpty() ? 0 : told.plays.get(told.plays.size() - 1).minute, 999);
            told.plays.add(play);
            play.kind = oldName("kind", -1, false);
            play.side = oldName("side", -1, false);
            play.points = number(0, 99);
            if (maybe("yes")) {
                play.call = 1;
            } else {
                expect("no");
            }
            while (!token().equals(";")) {
                Frame frame = new Frame();
                frame.camera = oldName("camera", -1, play.frames.size() == 10);
                play.frames.add(frame);
                frame.tick = number(0, 999);
                while (token().equals("!") || token().equals("?")) {
                    boolean there = maybe("!") || !maybe("?");
                    Set<Integer> already = new HashSet<>(frame.there);
                    already.addAll(frame.notYet);
                    (there ? frame.there : frame.notYet).add(mark(already));
                }
            }
        }
    }

    // ---- the state

    static final class Day {
        int happened;
        int[] call = new int[8];
        boolean[] reviewed = new boolean[8];
        boolean[] boarded = new boolean[8];
        int[] gone = new int[8];
        int[] left = new int[4];
        int[] won = new int[4];
        int[] seconds = new int[1000];
        List<int[]> log = new ArrayList<>();

        Day copy() {
            Day d = new Day();
            d.happened = happened;
            d.call = call.clone();
            d.reviewed = reviewed.clone();
            d.boarded = boarded.clone();
            d.gone = gone.clone();
            d.left = left.clone();
            d.won = won.clone();
            d.seconds = seconds.clone();
            d.log = new ArrayList<>(log);
            return d;
        }
    }

    String tape = "";
    Told told = new Told();
    Day day = new Day();
    List<Day> ahead = new ArrayList<>();
    Day[] kept = new Day[2];
    int[] row = new int[0];

    int feed(int a, int b, int c, int d, int e) {
        StringBuilder more = new StringBuilder(tape);
        for (int n : new int[] {a, b, c, d, e}) {
            more.append((char) (n >>> 24)).append((char) (n >>> 16 & 255)).append((char) (n >>> 8 & 255))
                    .append((char) (n & 255));
        }
        if (more.length() > 600) {
            return -1;
        }
        tape = more.toString();
        return tape.length();
    }

    int text(int n) {
        if (n < 0 || n > tape.length()) {
            return -1;
        }
        String text = tape.substring(0, n);
        tape = "";
        try {
            told = new Parser(text).parse();
        } catch (Fault f) {
            return -2 - f.code;
        }
        day = new Day();
        for (int s = 0; s < told.sides.size(); s++) {
            day.left[s] = told.sides.get(s);
        }
        ahead.clear();
        kept = new Day[2];
        return told.plays.size();
    }

    // ---- lates, one by one

    /** All LATES that can be, by cameras and flashes. */
    List<int[]> lates() {
        List<int[]> all = new ArrayList<>();
        all.add(new int[0]);
        for (int[] camera : told.cameras) {
            List<int[]> longer = new ArrayList<>();
            for (int[] some : all) {
                for (int late = camera[0]; late <= camera[1]; late++) {
                    int[] one = Arrays.copyOf(some, some.length + 1);
                    one[some.length] = late;
                    longer.add(one);
                }
            }
            all = longer;
        }
        all.removeIf(l -> told.flashes.stream().anyMatch(f -> f[1] - l[f[0]] != f[3] - l[f[2]]));
        return all;
    }

    static final int FAR = 100000;

    /** By these LATES and FRAMES: of each mark the least and the greatest moment; null if there are none. */
    int[][] moments(int[] late, List<Frame> frames) {
        int[][] of = new int[4][];
        for (int m = 0; m < 4; m++) {
            of[m] = new int[] {-FAR, FAR};
        }
        for (Frame f : frames) {
            int moment = f.tick - late[f.camera];
            for (int m : f.there) {
                of[m][1] = Math.min(of[m][1], moment);
            }
            for (int m : f.notYet) {
                of[m][0] = Math.max(of[m][0], moment + 1);
            }
        }
        for (int[] one : of) {
            if (one[0] > one[1]) {
                return null;
            }
        }
        return of;
    }

    /** Whether all pairs can hold: each mark as early as the ones that must be ahead of it let it be. */
    static boolean canHold(int[][] of, Kind kind) {
        int[] earliest = new int[4];
        for (int m = 0; m < 4; m++) {
            earliest[m] = of[m][0];
        }
        for (int round = 0; round < 10; round++) {
            for (int[] pair : kind.pairs) {
                earliest[pair[1]] = Math.max(earliest[pair[1]], earliest[pair[0]] + 1);
            }
        }
        for (int[] pair : kind.pairs) {
            if (earliest[pair[0]] >= earliest[pair[1]]) {
                return false;
            }
        }
        for (int m = 0; m < 4; m++) {
            if (earliest[m] > of[m][1]) {
                return false;
            }
        }
        return true;
    }

    static boolean canFail(int[][] of, Kind kind) {
        for (int[] pair : kind.pairs) {
            if (of[pair[0]][1] >= of[pair[1]][0]) {
                return true;
            }
        }
        return false;
    }

    private List<int[]> latesKnown;
    private Told latesOf;

    List<int[]> latesOnce() {
        if (latesOf != told) {
            latesOf = told;
            latesKnown = lates();
        }
        return latesKnown;
    }

    int verdictOf(Play play, List<Frame> frames) {
        Kind kind = told.kinds.get(play.kind);
        boolean any = false;
        boolean hold = false;
        boolean fail = false;
        for (int[] late : latesOnce()) {
            int[][] of = moments(late, frames);
            if (of != null) {
                any = true;
                hold |= canHold(of, kind);
                fail |= canFail(of, kind);
            }
        }
        return !any ? 3 : !fail ? 1 : !hold ? 0 : 2;
    }

    static List<Frame> some(Play play, int bits) {
        List<Frame> frames = new ArrayList<>();
        for (int k = 0; k < play.frames.size(); k++) {
            if ((bits >> k & 1) != 0) {
                frames.add(play.frames.get(k));
            }
        }
        return frames;
    }

    static List<Frame> seenBy(Play play, int cameras) {
        List<Frame> frames = new ArrayList<>(play.frames);
        frames.removeIf(f -> (cameras >> f.camera & 1) == 0);
        return frames;
    }

    boolean isPlay(int play) {
        return play >= 0 && play < told.plays.size();
    }

    boolean isSide(int side) {
        return side >= 0 && side < told.sides.size();
    }

    boolean isBoard(int board) {
        return board >= 0 && board < told.boards.size();
    }

    int camera(int camera, int what) {
        if (camera < 0 || camera >= told.cameras.size() || what < 0 || what > 3) {
            return -1;
        }
        if (what < 2) {
            return told.cameras.get(camera)[what];
        }
        if (latesOnce().isEmpty()) {
            return -2;
        }
        int best = latesOnce().get(0)[camera];
        for (int[] l : latesOnce()) {
            best = what == 2 ? Math.min(best, l[camera]) : Math.max(best, l[camera]);
        }
        return best;
    }

    int kind(int kind, int what) {
        if (kind < 0 || kind >= told.kinds.size() || what < 0 || what > 3) {
            return -1;
        }
        Kind k = told.kinds.get(kind);
        return new int[] {k.seconds, k.forced ? 1 : 0, k.again ? 1 : 0, k.pairs.size()}[what];
    }

    int side(int side, int what) {
        if (!isSide(side) || what < 0 || what > 3) {
            return -1;
        }
        int points = 0;
        for (int p = 0; p < day.happened; p++) {
            points += told.plays.get(p).side == side ? told.plays.get(p).points * day.call[p] : 0;
        }
        return new int[] {told.sides.get(side), day.left[side], day.won[side], points}[what];
    }

    int play(int play, int what) {
        if (!isPlay(play) || what < 0 || what > 8) {
            return -1;
        }
        Play p = told.plays.get(play);
        boolean happened = play < day.happened;
        return new int[] {p.minute, p.kind, p.side, p.points, p.call, p.frames.size(), happened ? day.call[play] : -2,
            happened && day.reviewed[play] ? 1 : 0, happened && day.boarded[play] ? 1 : 0}[what];
    }

    int frame(int play, int k, int what) {
        if (!isPlay(play) || k < 0 || k >= told.plays.get(play).frames.size() || what < 0 || what > 3) {
            throw new NoSuchElementException();
        }
        Frame f = told.plays.get(play).frames.get(k);
        int there = f.there.stream().mapToInt(m -> 1 << m).sum();
        int notYet = f.notYet.stream().mapToInt(m -> 1 << m).sum();
        return new int[] {f.camera, f.tick, there, notYet}[what];
    }

    int verdict(int play, int n) {
        if (!isPlay(play) || n < 0 || n > told.plays.get(play).frames.size()) {
            return -1;
        }
        return verdictOf(told.plays.get(play), told.plays.get(play).frames.subList(0, n));
    }

    int by(int play, int cameras) {
        if (!isPlay(play) || cameras < 0 || cameras >= 1 << told.cameras.size()) {
            return -1;
        }
        return verdictOf(told.plays.get(play), seenBy(told.plays.get(play), cameras));
    }

    int gap(int play, int a, int b, boolean most) {
        if (!isPlay(play) || a < 0 || a > 3 || b < 0 || b > 3) {
            return 3000000;
        }
        boolean torn = true;
        int best = most ? Integer.MIN_VALUE : Integer.MAX_VALUE;
        for (int[] late : latesOnce()) {
            int[][] of = moments(late, told.plays.get(play).frames);
            if (of == null) {
                continue;
            }
            torn = false;
            int least = a == b ? 0 : of[b][0] - of[a][1];
            int greatest = a == b ? 0 : of[b][1] - of[a][0];
            best = most ? Math.max(best, greatest) : Math.min(best, least);
        }
        return torn ? 2000000 : Math.abs(best) > FAR / 2 ? 1000000 : best;
    }

    int whole(int play) {
        return verdictOf(told.plays.get(play), told.plays.get(play).frames);
    }

    static int better(int best, int bits) {
        boolean less = best < 0 || Integer.bitCount(bits) < Integer.bitCount(best)
                || Integer.bitCount(bits) == Integer.bitCount(best) && bits < best;
        return less ? bits : best;
    }

    int fewest(int play) {
        if (!isPlay(play)) {
            return -1;
        }
        if (whole(play) > 1) {
            return -2;
        }
        int best = -1;
        Play p = told.plays.get(play);
        for (int bits = 0; bits < 1 << p.frames.size(); bits++) {
            if (best < 0 || better(best, bits) == bits) {
                best = verdictOf(p, some(p, bits)) == whole(play) ? better(best, bits) : best;
            }
        }
        return best;
    }

    int key(int play) {
        if (!isPlay(play)) {
            return -1;
        }
        if (whole(play) > 1) {
            return -2;
        }
        int key = 0;
        Play p = told.plays.get(play);
        for (int k = 0; k < p.frames.size(); k++) {
            key += verdictOf(p, some(p, ~(1 << k))) == 2 ? 1 << k : 0;
        }
        return key;
    }

    int enough(int play) {
        if (!isPlay(play)) {
            return -1;
        }
        if (whole(play) > 1) {
            return -2;
        }
        int best = -1;
        for (int bits = 0; bits < 1 << told.cameras.size(); bits++) {
            best = by(play, bits) == whole(play) ? better(best, bits) : best;
        }
        return best;
    }

    int mend(int play) {
        if (!isPlay(play)) {
            return -1;
        }
        int best = -1;
        Play p = told.plays.get(play);
        for (int bits = 0; bits < 1 << p.frames.size(); bits++) {
            if (best < 0 || better(best, bits) == bits) {
                best = verdictOf(p, some(p, ~bits)) != 3 ? better(best, bits) : best;
            }
        }
        return best < 0 ? -2 : best;
    }

    /** Outcome, seconds, frames. */
    int[] review(int play, int call) {
        Play p = told.plays.get(play);
        int each = told.kinds.get(p.kind).seconds;
        int looked = 0;
        while (true) {
            int v = verdictOf(p, p.frames.subList(0, looked));
            if (v == 0 || v == 1) {
                return new int[] {v == call ? 1 : 2, looked * each, looked};
            }
            if (v == 3 || looked == p.frames.size() || looked * each + each > told.setting("limit", 60)) {
                return new int[] {0, looked * each, looked};
            }
            looked++;
        }
    }

    int callNow(int play) {
        return play < day.happened ? day.call[play] : told.plays.get(play).call;
    }

    int look(int play, int what) {
        return !isPlay(play) || what < 0 || what > 2 ? -1 : review(play, callNow(play))[what];
    }

    // ---- the day

    boolean atOnce(int play) {
        Play p = told.plays.get(play);
        return told.kinds.get(p.kind).forced || p.minute >= told.setting("last", 1000);
    }

    void act() {
        ahead.add(day.copy());
        if (ahead.size() > 12) {
            ahead.remove(0);
        }
    }

    void logged(int... what) {
        day.log.add(0, what);
        if (day.log.size() > 16) {
            day.log.remove(16);
        }
    }

    int reviewed(int play, int by) {
        int[] r = review(play, day.call[play]);
        Play p = told.plays.get(play);
        day.reviewed[play] = true;
        day.seconds[p.minute] += r[1];
        logged(play, by, r[0], r[1]);
        if (r[0] == 2) {
            day.call[play] = 1 - day.call[play];
            if (told.kinds.get(p.kind).again) {
                day.happened = play + 1;
            }
        }
        return r[0];
    }

    int next() {
        int play = day.happened;
        if (!isPlay(play)) {
            return -1;
        }
        act();
        day.happened++;
        day.call[play] = told.plays.get(play).call;
        day.reviewed[play] = false;
        day.boarded[play] = false;
        day.gone[play] = -1;
        return atOnce(play) ? reviewed(play, -1) : 3;
    }

    int challenge(int side, int play) {
        if (!isSide(side) || !isPlay(play)) {
            return -1;
        }
        int behind = day.happened - 1 - play;
        if (behind < 0 || behind > told.setting("window", 1) || day.left[side] == 0 || day.reviewed[play]
                || day.boarded[play]) {
            return -2;
        }
        act();
        int outcome = reviewed(play, side);
        if (outcome != 2) {
            day.left[side]--;
            day.gone[play] = side;
            return outcome;
        }
        day.won[side]++;
        int bonus = told.setting("bonus", 0);
        if (bonus != 0 && day.won[side] % bonus == 0 && day.left[side] < 9) {
            day.left[side]++;
        }
        return outcome;
    }

    int put(int board, int play) {
        if (!isBoard(board) || !isPlay(play)) {
            return -1;
        }
        if (play >= day.happened || day.boarded[play]) {
            return -2;
        }
        boolean turned = Integer.bitCount(votes(board, play)) >= told.boards.get(board).need;
        act();
        day.boarded[play] = true;
        logged(play, 10 + board, turned ? 2 : 0, 0);
        if (!turned) {
            return 0;
        }
        day.call[play] = 1 - day.call[play];
        int gone = day.gone[play];
        if (gone >= 0 && day.left[gone] < 9) {
            day.left[gone]++;
        }
        return 1;
    }

    int votes(int board, int play) {
        if (!isBoard(board) || !isPlay(play)) {
            return -1;
        }
        int bits = 0;
        List<Set<Integer>> members = told.boards.get(board).members;
        for (int m = 0; m < members.size(); m++) {
            int cameras = members.get(m).stream().mapToInt(c -> 1 << c).sum();
            bits |= by(play, cameras) == 1 - callNow(play) ? 1 << m : 0;
        }
        return bits;
    }

    int pivot(int board, int play) {
        int votes = votes(board, play);
        if (votes < 0) {
            return votes;
        }
        int need = told.boards.get(board).need;
        int pivot = 0;
        for (int m = 0; m < 7; m++) {
            boolean without = Integer.bitCount(votes & ~(1 << m)) >= need;
            pivot |= Integer.bitCount(votes) >= need && !without ? 1 << m : 0;
        }
        return pivot;
    }

    int boards(int play) {
        if (!isPlay(play)) {
            return -1;
        }
        int bits = 0;
        for (int b = 0; b < told.boards.size(); b++) {
            bits |= Integer.bitCount(votes(b, play)) >= told.boards.get(b).need ? 1 << b : 0;
        }
        return bits;
    }

    int truth(int side) {
        return points(side, -1);
    }

    int range(int side, boolean most) {
        return points(side, most ? 1 : 0);
    }

    int points(int side, int unsure) {
        if (!isSide(side)) {
            return -1;
        }
        int points = 0;
        for (int p = 0; p < told.plays.size(); p++) {
            Play play = told.plays.get(p);
            int call = whole(p) < 2 ? whole(p) : unsure < 0 ? play.call : unsure;
            points += play.side == side ? call * play.points : 0;
        }
        return points;
    }

    int wrong() {
        int bits = 0;
        for (int p = 0; p < told.plays.size(); p++) {
            bits |= whole(p) == 1 - told.plays.get(p).call ? 1 << p : 0;
        }
        return bits;
    }

    /** A day of its own that is played through, with this side challenging or (NONE) none. */
    Reference fresh() {
        Reference other = new Reference();
        other.told = told;
        for (int s = 0; s < told.sides.size(); s++) {
            other.day.left[s] = told.sides.get(s);
        }
        return other;
    }

    int left(int side) {
        if (!isSide(side)) {
            return -1;
        }
        Reference other = fresh();
        while (other.next() >= 0) {
            other.ahead.clear();
        }
        return other.side(side, 3);
    }

    int need(int side) {
        if (!isSide(side)) {
            return -1;
        }
        for (int first = 0; first <= 9; first++) {
            Reference other = fresh();
            other.day.left[side] = first;
            boolean lacked = false;
            for (int p = 0; p < told.plays.size(); p++) {
                boolean against = (told.plays.get(p).side == side) == (told.plays.get(p).call == 0);
                if (other.next() == 3 && against) {
                    lacked |= other.challenge(side, p) == -2;
                }
            }
            if (!lacked) {
                return first;
            }
        }
        return 100;
    }

    // ---- time and back

    int seconds(int minute) {
        return minute < 0 || minute > 999 ? -1 : day.seconds[minute];
    }

    int extra() {
        int sum = 0;
        for (int s : day.seconds) {
            sum += s / 60 + (s % 60 > 0 ? 1 : 0);
        }
        return sum;
    }

    int log(int ago, int what) {
        if (ago < 0 || ago >= day.log.size() || what < 0 || what > 3) {
            throw new NoSuchElementException();
        }
        return day.log.get(ago)[what];
    }

    int sheet(int kind, int from, int to) {
        if (kind < 0 || kind > 2 || from < 0 || to > day.log.size()) {
            return -1;
        }
        if (to < from) {
            return -2;
        }
        row = new int[to - from];
        for (int i = 0; i < row.length; i++) {
            int s = day.log.get(from + i)[3];
            row[i] = kind == 0 ? (byte) s : kind == 1 ? (short) s : s;
        }
        return row.length;
    }

    int row(int i) {
        if (i < 0 || i >= row.length) {
            throw new NoSuchElementException();
        }
        return row[i];
    }

    int undo() {
        if (ahead.isEmpty()) {
            return -1;
        }
        day = ahead.remove(ahead.size() - 1);
        return ahead.size();
    }

    boolean keep(int k, boolean back) {
        if (k < 0 || k > 1 || back && kept[k] == null) {
            return false;
        }
        if (back) {
            day = kept[k].copy();
            ahead.clear();
        } else {
            kept[k] = day.copy();
        }
        return true;
    }

    int count(int what) {
        if (what < 0 || what > 14) {
            return -1;
        }
        return new int[] {told.cameras.size(), told.flashes.size(), told.sides.size(), told.kinds.size(),
            told.boards.size(), told.plays.size(), day.happened, day.log.size(), ahead.size(), tape.length(),
            row.length, told.setting("limit", 60), told.setting("bonus", 0), told.setting("last", 1000),
            told.setting("window", 1)}[what];
    }
}
