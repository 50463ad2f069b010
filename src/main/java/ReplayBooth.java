import java.util.Arrays;
import java.util.NoSuchElementException;

/** Umpires' replays: challenges kept when won, inconclusive stands, time by minute, boards. */
public final class ReplayBooth {
    public static final int NONE = -1;

    private static final int CANNOT = -2;

    private static final int MAX_BYTES = 600;
    private static final int MAX_CAMERAS = 5;
    private static final int MAX_FLASHES = 6;
    private static final int MAX_SIDES = 4;
    private static final int MAX_KINDS = 5;
    private static final int MAX_PAIRS = 3;
    private static final int MAX_BOARDS = 3;
    private static final int MAX_MEMBERS = 7;
    private static final int MAX_PLAYS = 8;
    private static final int MAX_FRAMES = 10;
    private static final int MAX_NAMES = 25;
    private static final int MAX_CHALLENGES = 9;
    private static final int MAX_LOG = 16;
    private static final int MAX_UNDO = 12;
    private static final int KEEPS = 2;
    private static final int MARKS = 4;
    private static final int MAX_LATE = 999;
    private static final int MAX_TICK = 999;
    private static final int MAX_MINUTE = 999;

    private static final int NO = 0;
    private static final int YES = 1;
    private static final int OPEN = 2;
    private static final int TORN = 3;

    private static final int STANDS = 0;
    private static final int CONFIRMED = 1;
    private static final int OVERTURNED = 2;
    private static final int NOT_REVIEWED = 3;

    private static final int LIMIT = 0;
    private static final int BONUS = 1;
    private static final int LAST = 2;
    private static final int WINDOW = 3;
    private static final int SETTINGS = 4;

    private static final int LOG_CELLS = 4;
    private static final int LOG_PLAY = 0;
    private static final int LOG_BY = 1;
    private static final int LOG_OUTCOME = 2;
    private static final int LOG_SECONDS = 3;
    private static final int LOG_BOARDS = 10;

    private static final int GAP_FREE = 1000000;
    private static final int GAP_TORN = 2000000;
    private static final int GAP_NONE = 3000000;

    private static final Token[] TOKENS = Token.values();

    private final byte[] tape = new byte[MAX_BYTES];
    private int taped;
    private Told told = new Told();
    /** Read into first, so that a TEXT with a FAULT leaves what was told as it is. */
    private Told spare = new Told();
    private final Reader reader = new Reader(tape, spare);
    private final Judge judge = new Judge();
    private final Day day = new Day();
    private final Day[] ahead = new Day[MAX_UNDO];
    private int aheadNext;
    private int acts;
    private final Day[] kept = new Day[KEEPS];
    private final boolean[] isKept = new boolean[KEEPS];
    private final int[] row = new int[MAX_LOG];
    private int rows;

    public ReplayBooth() {
        for (int i = 0; i < MAX_UNDO; i++) {
            ahead[i] = new Day();
        }
        for (int k = 0; k < KEEPS; k++) {
            kept[k] = new Day();
        }
    }

    // ---- what is told

    public int feed(int a, int b, int c, int d, int e) {
        if (taped + 20 > MAX_BYTES) {
            return NONE;
        }
        tapeNumber(a);
        tapeNumber(b);
        tapeNumber(c);
        tapeNumber(d);
        tapeNumber(e);
        return taped;
    }

    private void tapeNumber(int number) {
        for (int shift = 24; shift >= 0 && taped < MAX_BYTES; shift -= 8) {
            tape[taped] = (byte) (number >> shift);
            taped++;
        }
    }

    public int text(int n) {
        if (n < 0 || n > taped) {
            return NONE;
        }
        taped = 0;
        reader.begin(spare, n);
        for (int line = 0; line <= MAX_BYTES && reader.token != Token.END; line++) {
            if (!reader.tellLine() || !reader.take(Token.LINE_END)) {
                return -2 - reader.fault;
            }
        }
        Told old = told;
        told = spare;
        spare = old;
        day.begin(told);
        acts = 0;
        for (int k = 0; k < KEEPS; k++) {
            isKept[k] = false;
        }
        return told.plays;
    }

    public int camera(int camera, int what) {
        if (camera < 0 || camera >= told.cameras) {
            return NONE;
        }
        switch (what) {
            case 0:
                return told.lateLeast[camera];
            case 1:
                return told.lateMost[camera];
            case 2:
                return told.clocks.torn ? CANNOT : told.clocks.lateLeast(camera);
            case 3:
                return told.clocks.torn ? CANNOT : told.clocks.lateMost(camera);
            default:
                return NONE;
        }
    }

    public int kind(int kind, int what) {
        if (kind < 0 || kind >= told.kinds) {
            return NONE;
        }
        Kind asked = told.kind[kind];
        switch (what) {
            case 0:
                return asked.seconds;
            case 1:
                return asked.forced ? 1 : 0;
            case 2:
                return asked.again ? 1 : 0;
            case 3:
                return asked.pairs;
            default:
                return NONE;
        }
    }

    public int side(int side, int what) {
        if (!isSide(side)) {
            return NONE;
        }
        switch (what) {
            case 0:
                return told.challenges[side];
            case 1:
                return day.left[side];
            case 2:
                return day.won[side];
            case 3:
                return pointsNow(side);
            default:
                return NONE;
        }
    }

    private int pointsNow(int side) {
        int points = 0;
        for (int p = 0; p < day.happened; p++) {
            if (told.play[p].side == side && day.call(p) == YES) {
                points += told.play[p].points;
            }
        }
        return points;
    }

    public int play(int play, int what) {
        if (!isPlay(play)) {
            return NONE;
        }
        Play asked = told.play[play];
        switch (what) {
            case 0:
                return asked.minute;
            case 1:
                return asked.kind;
            case 2:
                return asked.side;
            case 3:
                return asked.points;
            case 4:
                return asked.call;
            case 5:
                return asked.frames;
            case 6:
                return play < day.happened ? day.call(play) : CANNOT;
            case 7:
                return day.isReviewed(play) ? 1 : 0;
            case 8:
                return day.isBoarded(play) ? 1 : 0;
            default:
                return NONE;
        }
    }

    public int frame(int play, int k, int what) throws NoSuchElementException {
        if (!isPlay(play) || k < 0 || k >= told.play[play].frames || what < 0 || what > 3) {
            throw new NoSuchElementException("no such frame");
        }
        Play asked = told.play[play];
        if (what == 0) {
            return asked.camera[k];
        }
        if (what == 1) {
            return asked.tick[k];
        }
        return what == 2 ? asked.there[k] : asked.notYet[k];
    }

    private boolean isSide(int side) {
        return side >= 0 && side < told.sides;
    }

    private boolean isPlay(int play) {
        return play >= 0 && play < told.plays;
    }

    private boolean isBoard(int board) {
        return board >= 0 && board < told.boards;
    }

    // ---- what frames make sure of

    public int verdict(int play, int n) {
        if (!isPlay(play) || n < 0 || n > told.play[play].frames) {
            return NONE;
        }
        return judge.byFrames(told, told.play[play], (1 << n) - 1);
    }

    public int by(int play, int cameras) {
        if (!isPlay(play) || (cameras & ~told.allCameras()) != 0) {
            return NONE;
        }
        return judge.byFrames(told, told.play[play], told.play[play].framesOf(cameras));
    }

    public int gap(int play, int a, int b, boolean most) {
        if (!isPlay(play) || a < 0 || a >= MARKS || b < 0 || b >= MARKS) {
            return GAP_NONE;
        }
        Bounds sure = judge.sureOf(told, told.play[play], told.play[play].allFrames());
        if (sure.torn) {
            return GAP_TORN;
        }
        int bound = most ? sure.markLess(b, a) : sure.markLess(a, b);
        if (bound == Bounds.FREE) {
            return GAP_FREE;
        }
        return most ? bound : -bound;
    }

    public int fewest(int play) {
        return isPlay(play) ? judge.fewestFrames(told, told.play[play]) : NONE;
    }

    public int key(int play) {
        return isPlay(play) ? judge.keyFrames(told, told.play[play]) : NONE;
    }

    public int enough(int play) {
        return isPlay(play) ? judge.fewestCameras(told, told.play[play]) : NONE;
    }

    public int mend(int play) {
        return isPlay(play) ? judge.fewestLeftOut(told, told.play[play]) : NONE;
    }

    public int look(int play, int what) {
        if (!isPlay(play) || what < 0 || what > 2) {
            return NONE;
        }
        int outcome = judge.review(told, told.play[play], callNow(play));
        if (what == 0) {
            return outcome;
        }
        return what == 1 ? judge.reviewSeconds : judge.reviewFrames;
    }

    private int callNow(int play) {
        return play < day.happened ? day.call(play) : told.play[play].call;
    }

    // ---- the day

    public int next() {
        int play = day.happened;
        if (!isPlay(play)) {
            return NONE;
        }
        startAct();
        day.happen(play, told.play[play].call);
        return told.isReviewedAtOnce(play) ? reviewNow(play, NONE) : NOT_REVIEWED;
    }

    public int challenge(int side, int play) {
        if (!isSide(side) || !isPlay(play)) {
            return NONE;
        }
        if (!canChallenge(side, play)) {
            return CANNOT;
        }
        startAct();
        int outcome = reviewNow(play, side);
        if (outcome == OVERTURNED) {
            day.won[side]++;
            day.left[side] = told.leftWhenWon(day.left[side], day.won[side]);
        } else {
            day.left[side]--;
            day.goneBy[play] = side;
        }
        return outcome;
    }

    private boolean canChallenge(int side, int play) {
        return day.left[side] > 0 && play < day.happened
                && day.happened - 1 - play <= told.setting[WINDOW]
                && !day.isReviewed(play) && !day.isBoarded(play);
    }

    private int reviewNow(int play, int by) {
        int outcome = judge.review(told, told.play[play], day.call(play));
        day.reviewed |= 1 << play;
        day.seconds[play] += judge.reviewSeconds;
        day.addLog(play, by, outcome, judge.reviewSeconds);
        if (outcome == OVERTURNED) {
            day.turn(play);
            if (told.kind[told.play[play].kind].again) {
                day.restartBehind(play);
            }
        }
        return outcome;
    }

    private void startAct() {
        ahead[aheadNext].copyFrom(day);
        aheadNext = (aheadNext + 1) % MAX_UNDO;
        acts = Math.min(acts + 1, MAX_UNDO);
    }

    public int put(int board, int play) {
        if (!isBoard(board) || !isPlay(play)) {
            return NONE;
        }
        if (play >= day.happened || day.isBoarded(play)) {
            return CANNOT;
        }
        startAct();
        boolean overturned = wouldOverturn(board, play);
        day.boarded |= 1 << play;
        day.addLog(play, LOG_BOARDS + board, overturned ? OVERTURNED : STANDS, 0);
        if (overturned) {
            day.turn(play);
            day.giveBack(play);
        }
        return overturned ? 1 : 0;
    }

    private boolean wouldOverturn(int board, int play) {
        Board asked = told.board[board];
        int against = judge.membersAgainst(told, asked, told.play[play], callNow(play));
        return Integer.bitCount(against) >= asked.need;
    }

    public int votes(int board, int play) {
        if (!isBoard(board) || !isPlay(play)) {
            return NONE;
        }
        return judge.membersAgainst(told, told.board[board], told.play[play], callNow(play));
    }

    public int pivot(int board, int play) {
        if (!isBoard(board) || !isPlay(play)) {
            return NONE;
        }
        int against = judge.membersAgainst(told, told.board[board], told.play[play], callNow(play));
        // With more votes than needed, no single one matters; with fewer, it isn't overturned.
        return Integer.bitCount(against) == told.board[board].need ? against : 0;
    }

    public int boards(int play) {
        if (!isPlay(play)) {
            return NONE;
        }
        int bits = 0;
        for (int b = 0; b < told.boards; b++) {
            if (wouldOverturn(b, play)) {
                bits |= 1 << b;
            }
        }
        return bits;
    }

    // ---- points

    public int truth(int side) {
        return isSide(side) ? pointsInTruth(side, NONE) : NONE;
    }

    public int range(int side, boolean most) {
        return isSide(side) ? pointsInTruth(side, most ? YES : NO) : NONE;
    }

    /** POINTS by all FRAMES; a PLAY that is not sure by them has the call unsure, or (NONE) its own. */
    private int pointsInTruth(int side, int unsure) {
        int points = 0;
        for (int p = 0; p < told.plays; p++) {
            Play play = told.play[p];
            int otherwise = unsure == NONE ? play.call : unsure;
            if (play.side == side && judge.trueCall(told, play, otherwise) == YES) {
                points += play.points;
            }
        }
        return points;
    }

    public int wrong() {
        int bits = 0;
        for (int p = 0; p < told.plays; p++) {
            Play play = told.play[p];
            if (judge.trueCall(told, play, play.call) != play.call) {
                bits |= 1 << p;
            }
        }
        return bits;
    }

    public int left(int side) {
        if (!isSide(side)) {
            return NONE;
        }
        int points = 0;
        for (int p = 0; p < told.plays; p++) {
            if (told.play[p].side == side && callUnchallenged(p) == YES) {
                points += told.play[p].points;
            }
        }
        return points;
    }

    private int callUnchallenged(int p) {
        Play play = told.play[p];
        boolean turned = told.isReviewedAtOnce(p) && judge.review(told, play, play.call) == OVERTURNED;
        return turned ? YES - play.call : play.call;
    }

    public int need(int side) {
        if (!isSide(side)) {
            return NONE;
        }
        int challenged = 0;
        int overturned = 0;
        for (int p = 0; p < told.plays; p++) {
            if (isAgainst(side, told.play[p]) && !told.isReviewedAtOnce(p)) {
                challenged |= 1 << p;
                if (judge.review(told, told.play[p], told.play[p].call) == OVERTURNED) {
                    overturned |= 1 << p;
                }
            }
        }
        for (int first = 0; first < MAX_CHALLENGES; first++) {
            if (neverLacks(first, challenged, overturned)) {
                return first;
            }
        }
        return MAX_CHALLENGES;
    }

    private static boolean isAgainst(int side, Play play) {
        return play.side == side ? play.call == NO : play.call == YES;
    }

    private boolean neverLacks(int first, int challenged, int overturned) {
        int have = first;
        int won = 0;
        for (int p = 0; p < told.plays; p++) {
            if ((challenged >> p & 1) == 0) {
                continue;
            }
            if (have == 0) {
                return false;
            }
            if ((overturned >> p & 1) != 0) {
                won++;
                have = told.leftWhenWon(have, won);
            } else {
                have--;
            }
        }
        return true;
    }

    // ---- time

    public int seconds(int minute) {
        return minute >= 0 && minute <= MAX_MINUTE ? secondsOf(minute) : NONE;
    }

    private int secondsOf(int minute) {
        int sum = 0;
        for (int p = 0; p < told.plays; p++) {
            if (told.play[p].minute == minute) {
                sum += day.seconds[p];
            }
        }
        return sum;
    }

    public int extra() {
        int minutes = 0;
        for (int p = 0; p < told.plays; p++) {
            int minute = told.play[p].minute;
            // PLAYS of one MINUTE stand together, as no MINUTE is below the one ahead.
            if (p == 0 || told.play[p - 1].minute != minute) {
                minutes += (secondsOf(minute) + 59) / 60;
            }
        }
        return minutes;
    }

    public int log(int ago, int what) throws NoSuchElementException {
        if (ago < 0 || ago >= day.logRows || what < 0 || what >= LOG_CELLS) {
            throw new NoSuchElementException("no such row of the log");
        }
        return day.log[ago * LOG_CELLS + what];
    }

    public int sheet(int kind, int from, int to) {
        if (kind < 0 || kind > 2 || from < 0 || to > day.logRows) {
            return NONE;
        }
        if (to < from) {
            return CANNOT;
        }
        for (int ago = from; ago < to; ago++) {
            row[ago - from] = narrowed(kind, day.log[ago * LOG_CELLS + LOG_SECONDS]);
        }
        rows = to - from;
        return rows;
    }

    private static int narrowed(int kind, int number) {
        if (kind == 0) {
            return (byte) number;
        }
        return kind == 1 ? (short) number : number;
    }

    public int row(int i) throws NoSuchElementException {
        if (i < 0 || i >= rows) {
            throw new NoSuchElementException("no such number of the row");
        }
        return row[i];
    }

    // ---- back

    public int undo() {
        if (acts == 0) {
            return NONE;
        }
        aheadNext = (aheadNext + MAX_UNDO - 1) % MAX_UNDO;
        day.copyFrom(ahead[aheadNext]);
        acts--;
        return acts;
    }

    public boolean keep(int k, boolean back) {
        if (k < 0 || k >= KEEPS) {
            return false;
        }
        if (!back) {
            kept[k].copyFrom(day);
            isKept[k] = true;
            return true;
        }
        if (!isKept[k]) {
            return false;
        }
        day.copyFrom(kept[k]);
        acts = 0;
        return true;
    }

    public int count(int what) {
        switch (what) {
            case 0:
                return told.cameras;
            case 1:
                return told.flashes;
            case 2:
                return told.sides;
            case 3:
                return told.kinds;
            case 4:
                return told.boards;
            case 5:
                return told.plays;
            case 6:
                return day.happened;
            case 7:
                return day.logRows;
            case 8:
                return acts;
            case 9:
                return taped;
            case 10:
                return rows;
            case 11:
                return told.setting[LIMIT];
            case 12:
                return told.setting[BONUS];
            case 13:
                return told.setting[LAST];
            case 14:
                return told.setting[WINDOW];
            default:
                return NONE;
        }
    }

    /** What a TOKEN is; those with letters are the TEXT's own words, which are no NAMES. */
    private enum Token {
        END(""), BAD(""), NAME(""), NUMBER(""),
        LINE_END(""), OPENING(""), CLOSING(""), THERE(""), NOT_YET(""),
        CAMERA("camera"), FLASH("flash"), SIDE("side"), KIND("kind"), BOARD("board"), PLAY("play"),
        LIMIT("limit"), BONUS("bonus"), LAST("last"), WINDOW("window"),
        FORCED("forced"), AGAIN("again"), BEFORE("before"), AND("and"), YES("yes"), NO("no");

        /** The letters as one number, another one for each WORD of six letters at most. */
        final int code;

        Token(String letters) {
            int packed = 0;
            for (int i = 0; i < letters.length(); i++) {
                packed = withLetter(packed, letters.charAt(i));
            }
            code = packed;
        }

        static int withLetter(int packed, int letter) {
            return packed * 32 + letter - 'a' + 1;
        }

        static Token ofWord(int code) {
            for (int i = 0; i < TOKENS.length; i++) {
                if (TOKENS[i].code == code) {
                    return TOKENS[i];
                }
            }
            return NAME;
        }

        static Token ofSign(int sign) {
            switch (sign) {
                case ';':
                    return LINE_END;
                case '(':
                    return OPENING;
                case ')':
                    return CLOSING;
                case '!':
                    return THERE;
                case '?':
                    return NOT_YET;
                default:
                    return BAD;
            }
        }
    }

    /** A KIND as told. */
    private static final class Kind {
        int seconds;
        boolean forced;
        boolean again;
        int pairs;
        final int[] first = new int[MAX_PAIRS];
        final int[] second = new int[MAX_PAIRS];
    }

    /** A BOARD as told: of each MEMBER the CAMERAS, as bits. */
    private static final class Board {
        int need;
        int members;
        final int[] cameras = new int[MAX_MEMBERS];
    }

    /** A PLAY as told. */
    private static final class Play {
        static final int UNKNOWN = -3;

        int minute;
        int kind;
        int side;
        int points;
        int call;
        int frames;
        final int[] camera = new int[MAX_FRAMES];
        final int[] tick = new int[MAX_FRAMES];
        final int[] there = new int[MAX_FRAMES];
        final int[] notYet = new int[MAX_FRAMES];
        /** Found by a long search, and the same as long as the TEXT is: searched for once. */
        int fewestFound;
        int leftOutFound;

        void clear() {
            frames = 0;
            fewestFound = UNKNOWN;
            leftOutFound = UNKNOWN;
        }

        int allFrames() {
            return (1 << frames) - 1;
        }

        int framesOf(int cameras) {
            int bits = 0;
            for (int k = 0; k < frames; k++) {
                if ((cameras >> camera[k] & 1) != 0) {
                    bits |= 1 << k;
                }
            }
            return bits;
        }
    }

    /** What a TEXT tells. */
    private static final class Told {
        int cameras;
        final int[] lateLeast = new int[MAX_CAMERAS];
        final int[] lateMost = new int[MAX_CAMERAS];
        int flashes;
        /** What CAMERAS and FLASHES alone make sure of. */
        final Bounds clocks = new Bounds();
        int sides;
        final int[] challenges = new int[MAX_SIDES];
        int kinds;
        final Kind[] kind = new Kind[MAX_KINDS];
        int boards;
        final Board[] board = new Board[MAX_BOARDS];
        int plays;
        final Play[] play = new Play[MAX_PLAYS];
        final int[] setting = new int[SETTINGS];

        Told() {
            for (int k = 0; k < MAX_KINDS; k++) {
                kind[k] = new Kind();
            }
            for (int b = 0; b < MAX_BOARDS; b++) {
                board[b] = new Board();
            }
            for (int p = 0; p < MAX_PLAYS; p++) {
                play[p] = new Play();
            }
            clear();
        }

        void clear() {
            cameras = 0;
            flashes = 0;
            clocks.clear();
            sides = 0;
            kinds = 0;
            boards = 0;
            plays = 0;
            setting[LIMIT] = 60;
            setting[BONUS] = 0;
            setting[LAST] = 1000;
            setting[WINDOW] = 1;
        }

        int allCameras() {
            return (1 << cameras) - 1;
        }

        boolean isReviewedAtOnce(int p) {
            return kind[play[p].kind].forced || play[p].minute >= setting[LAST];
        }

        /** CHALLENGES left behind one that was won, the one that is now the won-th. */
        int leftWhenWon(int have, int won) {
            int bonus = setting[BONUS];
            boolean oneMore = bonus != 0 && won % bonus == 0;
            return oneMore ? Math.min(have + 1, MAX_CHALLENGES) : have;
        }
    }

    /** Reads a TEXT token by token; each method that takes a part answers false at a FAULT. */
    private static final class Reader {
        static final int NO_TEXT = 1;
        static final int NAME_IS_THERE = 2;
        static final int NUMBER_CANNOT_BE = 3;
        static final int NO_SUCH_NAME = 4;
        static final int TOO_MANY = 5;

        static final int WORD_LETTERS = 6;
        static final int NUMBER_DIGITS = 4;

        final byte[] tape;
        Told told;
        int end;
        int at;
        Token token = Token.END;
        /** Where the TOKEN begins. */
        int start;
        /** Of a NUMBER the number, of a WORD the code. */
        int value;
        /** The NUMBER that was taken last. */
        int number;
        /** 8 * place + kind, once a part was not taken. */
        int fault;
        int names;
        final int[] nameCode = new int[MAX_NAMES];
        final Token[] nameSort = new Token[MAX_NAMES];
        final int[] nameNumber = new int[MAX_NAMES];
        int settingsTold;

        Reader(byte[] tape, Told told) {
            this.tape = tape;
            this.told = told;
        }

        void begin(Told into, int bytes) {
            into.clear();
            told = into;
            end = Math.min(bytes, tape.length);
            at = 0;
            names = 0;
            settingsTold = 0;
            advance();
        }

        // ---- tokens

        void advance() {
            while (at < end && (tape[at] == ' ' || tape[at] == '\n')) {
                at++;
            }
            start = at;
            value = 0;
            if (at >= end) {
                token = Token.END;
            } else if (isDigit(tape[at])) {
                scanNumber();
            } else if (isLetter(tape[at])) {
                scanWord();
            } else {
                token = Token.ofSign(tape[at]);
                at++;
            }
        }

        static boolean isLetter(int sign) {
            return sign >= 'a' && sign <= 'z';
        }

        static boolean isDigit(int sign) {
            return sign >= '0' && sign <= '9';
        }

        void scanNumber() {
            while (at < end && isDigit(tape[at])) {
                value = at - start < NUMBER_DIGITS ? value * 10 + tape[at] - '0' : value;
                at++;
            }
            token = at - start <= NUMBER_DIGITS ? Token.NUMBER : Token.BAD;
        }

        void scanWord() {
            while (at < end && isLetter(tape[at])) {
                value = at - start < WORD_LETTERS ? Token.withLetter(value, tape[at]) : value;
                at++;
            }
            token = at - start <= WORD_LETTERS ? Token.ofWord(value) : Token.BAD;
        }

        // ---- parts of lines

        boolean fail(int kind) {
            fault = 8 * start + kind;
            return false;
        }

        boolean take(Token wanted) {
            if (token != wanted) {
                return fail(NO_TEXT);
            }
            advance();
            return true;
        }

        /** Takes a TOKEN that may be missing: whether it was there. */
        boolean skip(Token wanted) {
            boolean there = token == wanted;
            if (there) {
                advance();
            }
            return there;
        }

        boolean takeNumber(int least, int most) {
            if (token != Token.NUMBER) {
                return fail(NO_TEXT);
            }
            if (value < least || value > most) {
                return fail(NUMBER_CANNOT_BE);
            }
            number = value;
            advance();
            return true;
        }

        /** A MARK that is none of those already told (bits). */
        boolean takeMark(int already) {
            if (token != Token.NUMBER) {
                return fail(NO_TEXT);
            }
            if (value >= MARKS || (already >> value & 1) != 0) {
                return fail(NUMBER_CANNOT_BE);
            }
            number = value;
            advance();
            return true;
        }

        boolean giveName(Token nameOf, int numbered) {
            if (token != Token.NAME) {
                return fail(NO_TEXT);
            }
            for (int i = 0; i < names; i++) {
                if (nameCode[i] == value) {
                    return fail(NAME_IS_THERE);
                }
            }
            if (names < MAX_NAMES) {
                nameCode[names] = value;
                nameSort[names] = nameOf;
                nameNumber[names] = numbered;
                names++;
            }
            advance();
            return true;
        }

        /** The number of the one asked for, which must be another one than this; NONE at a FAULT. The TOKEN stays. */
        int findName(Token nameOf, int notThis) {
            if (token != Token.NAME) {
                fail(NO_TEXT);
                return NONE;
            }
            for (int i = 0; i < names; i++) {
                if (nameCode[i] == value && nameSort[i] == nameOf && nameNumber[i] != notThis) {
                    return nameNumber[i];
                }
            }
            fail(NO_SUCH_NAME);
            return NONE;
        }

        int takeName(Token nameOf, int notThis) {
            int found = findName(nameOf, notThis);
            if (found != NONE) {
                advance();
            }
            return found;
        }

        // ---- lines

        /** A LINE but for its end. */
        boolean tellLine() {
            Token first = token;
            if (!startLine(first)) {
                return false;
            }
            switch (first) {
                case CAMERA:
                    return tellCamera();
                case FLASH:
                    return tellFlash();
                case SIDE:
                    return tellSide();
                case KIND:
                    return tellKind();
                case BOARD:
                    return tellBoard();
                case PLAY:
                    return tellPlay();
                case LIMIT:
                    return tellSetting(LIMIT, 999);
                case BONUS:
                    return tellSetting(BONUS, 9);
                case LAST:
                    return tellSetting(LAST, 999);
                case WINDOW:
                    return tellSetting(WINDOW, 9);
                default:
                    return fail(NO_TEXT);
            }
        }

        boolean startLine(Token first) {
            int room = roomFor(first);
            if (room <= 0) {
                return fail(room == NONE ? NO_TEXT : TOO_MANY);
            }
            advance();
            return true;
        }

        /** How many LINES more can begin with this TOKEN; NONE: no LINE begins with it. */
        int roomFor(Token first) {
            switch (first) {
                case CAMERA:
                    return MAX_CAMERAS - told.cameras;
                case FLASH:
                    return MAX_FLASHES - told.flashes;
                case SIDE:
                    return MAX_SIDES - told.sides;
                case KIND:
                    return MAX_KINDS - told.kinds;
                case BOARD:
                    return MAX_BOARDS - told.boards;
                case PLAY:
                    return MAX_PLAYS - told.plays;
                case LIMIT:
                    return roomForSetting(LIMIT);
                case BONUS:
                    return roomForSetting(BONUS);
                case LAST:
                    return roomForSetting(LAST);
                case WINDOW:
                    return roomForSetting(WINDOW);
                default:
                    return NONE;
            }
        }

        int roomForSetting(int setting) {
            return 1 - (settingsTold >> setting & 1);
        }

        boolean tellSetting(int setting, int most) {
            if (!takeNumber(0, most)) {
                return false;
            }
            told.setting[setting] = number;
            settingsTold |= 1 << setting;
            return true;
        }

        boolean tellCamera() {
            int camera = told.cameras;
            if (!giveName(Token.CAMERA, camera) || !takeNumber(0, MAX_LATE)) {
                return false;
            }
            told.lateLeast[camera] = number;
            if (!takeNumber(number, MAX_LATE)) {
                return false;
            }
            told.lateMost[camera] = number;
            told.clocks.tellLate(camera, told.lateLeast[camera], number);
            told.cameras++;
            return true;
        }

        boolean tellFlash() {
            int first = takeName(Token.CAMERA, NONE);
            if (first == NONE || !takeNumber(0, MAX_TICK)) {
                return false;
            }
            int firstTick = number;
            int second = takeName(Token.CAMERA, first);
            if (second == NONE || !takeNumber(0, MAX_TICK)) {
                return false;
            }
            told.clocks.tellFlash(first, firstTick, second, number);
            told.flashes++;
            return true;
        }

        boolean tellSide() {
            if (!giveName(Token.SIDE, told.sides) || !takeNumber(0, MAX_CHALLENGES)) {
                return false;
            }
            told.challenges[told.sides] = number;
            told.sides++;
            return true;
        }

        boolean tellKind() {
            Kind kind = told.kind[told.kinds];
            if (!giveName(Token.KIND, told.kinds) || !takeNumber(1, 60)) {
                return false;
            }
            kind.seconds = number;
            kind.forced = skip(Token.FORCED);
            kind.again = skip(Token.AGAIN);
            kind.pairs = 0;
            if (!tellPair(kind)) {
                return false;
            }
            for (int more = 0; more < MAX_PAIRS && token == Token.AND; more++) {
                if (kind.pairs == MAX_PAIRS) {
                    return fail(TOO_MANY);
                }
                advance();
                if (!tellPair(kind)) {
                    return false;
                }
            }
            told.kinds++;
            return true;
        }

        boolean tellPair(Kind kind) {
            if (!takeMark(0)) {
                return false;
            }
            int first = number;
            if (!take(Token.BEFORE) || !takeMark(1 << first)) {
                return false;
            }
            kind.first[kind.pairs] = first;
            kind.second[kind.pairs] = number;
            kind.pairs++;
            return true;
        }

        boolean tellBoard() {
            Board board = told.board[told.boards];
            if (!giveName(Token.BOARD, told.boards) || !takeNumber(1, 9)) {
                return false;
            }
            board.need = number;
            board.members = 0;
            if (token != Token.OPENING) {
                return fail(NO_TEXT);
            }
            for (int m = 0; m <= MAX_MEMBERS && token == Token.OPENING; m++) {
                if (m == MAX_MEMBERS) {
                    return fail(TOO_MANY);
                }
                advance();
                if (!tellMember(board)) {
                    return false;
                }
            }
            told.boards++;
            return true;
        }

        boolean tellMember(Board board) {
            int cameras = 0;
            for (int k = 0; k < MAX_BYTES && (k == 0 || token != Token.CLOSING); k++) {
                int camera = takeName(Token.CAMERA, NONE);
                if (camera == NONE) {
                    return false;
                }
                cameras |= 1 << camera;
            }
            board.cameras[board.members] = cameras;
            board.members++;
            return take(Token.CLOSING);
        }

        boolean tellPlay() {
            Play play = told.play[told.plays];
            play.clear();
            int minuteAhead = told.plays == 0 ? 0 : told.play[told.plays - 1].minute;
            if (!giveName(Token.PLAY, told.plays) || !takeNumber(minuteAhead, MAX_MINUTE)) {
                return false;
            }
            play.minute = number;
            play.kind = takeName(Token.KIND, NONE);
            if (play.kind == NONE) {
                return false;
            }
            play.side = takeName(Token.SIDE, NONE);
            if (play.side == NONE || !takeNumber(0, 99)) {
                return false;
            }
            play.points = number;
            play.call = token == Token.YES ? YES : NO;
            if (!take(play.call == YES ? Token.YES : Token.NO)) {
                return false;
            }
            for (int k = 0; k <= MAX_FRAMES && token != Token.LINE_END; k++) {
                if (!tellFrame(play)) {
                    return false;
                }
            }
            told.plays++;
            return true;
        }

        boolean tellFrame(Play play) {
            int camera = findName(Token.CAMERA, NONE);
            if (camera == NONE) {
                return false;
            }
            if (play.frames == MAX_FRAMES) {
                return fail(TOO_MANY);
            }
            advance();
            if (!takeNumber(0, MAX_TICK)) {
                return false;
            }
            int k = play.frames;
            play.camera[k] = camera;
            play.tick[k] = number;
            play.there[k] = 0;
            play.notYet[k] = 0;
            play.frames++;
            // A fifth MARK can only be one told again, so the fifth time round ends with a FAULT.
            for (int m = 0; m <= MARKS && (token == Token.THERE || token == Token.NOT_YET); m++) {
                boolean isThere = token == Token.THERE;
                advance();
                if (!takeMark(play.there[k] | play.notYet[k])) {
                    return false;
                }
                play.there[k] |= isThere ? 1 << number : 0;
                play.notYet[k] |= isThere ? 0 : 1 << number;
            }
            return true;
        }
    }

    /**
     * How far each of some whole numbers can be above each other one. The numbers: 0 itself, of
     * each CAMERA the LATE below 0 (so that a tick's moment is tick + number), of each MARK the
     * moment. What is told is worked in at once, so that every bound is the tightest there is.
     */
    private static final class Bounds {
        static final int FREE = 1 << 28;
        static final int ZERO = 0;
        static final int CAMERA = 1;
        static final int MARK = CAMERA + MAX_CAMERAS;
        static final int SIZE = MARK + MARKS;

        final int[] most = new int[SIZE * SIZE];
        boolean torn;

        void clear() {
            Arrays.fill(most, FREE);
            for (int i = 0; i < SIZE; i++) {
                most[i * SIZE + i] = 0;
            }
            torn = false;
        }

        void copyFrom(Bounds other) {
            System.arraycopy(other.most, 0, most, 0, SIZE * SIZE);
            torn = other.torn;
        }

        /** Number high is above number low by so much at most. */
        void tell(int high, int low, int above) {
            if (torn || most[high * SIZE + low] <= above) {
                return;
            }
            int back = most[low * SIZE + high];
            if (back != FREE && back + above < 0) {
                torn = true;
                return;
            }
            for (int i = 0; i < SIZE; i++) {
                int toLow = most[i * SIZE + high] + above;
                for (int j = 0; j < SIZE && most[i * SIZE + high] != FREE; j++) {
                    int rest = most[low * SIZE + j];
                    if (rest != FREE && toLow + rest < most[i * SIZE + j]) {
                        most[i * SIZE + j] = toLow + rest;
                    }
                }
            }
        }

        void tellLate(int camera, int least, int greatest) {
            tell(CAMERA + camera, ZERO, -least);
            tell(ZERO, CAMERA + camera, greatest);
        }

        void tellFlash(int first, int firstTick, int second, int secondTick) {
            tell(CAMERA + first, CAMERA + second, secondTick - firstTick);
            tell(CAMERA + second, CAMERA + first, firstTick - secondTick);
        }

        /** The greatest that the moment of mark a less that of mark b can be, or FREE. */
        int markLess(int a, int b) {
            return most[(MARK + a) * SIZE + MARK + b];
        }

        int lateLeast(int camera) {
            return -most[(CAMERA + camera) * SIZE + ZERO];
        }

        int lateMost(int camera) {
            return most[ZERO * SIZE + CAMERA + camera];
        }
    }

    /** What FRAMES make sure of. */
    private static final class Judge {
        private final Bounds sure = new Bounds();
        private final Bounds trial = new Bounds();
        /** Of the REVIEW that was made last. */
        int reviewSeconds;
        int reviewFrames;

        /** Bounds by FLASHES and some FRAMES (bits), good until the next question. */
        Bounds sureOf(Told told, Play play, int frames) {
            sure.copyFrom(told.clocks);
            for (int k = 0; k < play.frames; k++) {
                if ((frames >> k & 1) != 0) {
                    tellFrame(play, k);
                }
            }
            return sure;
        }

        private void tellFrame(Play play, int k) {
            int clock = Bounds.CAMERA + play.camera[k];
            for (int mark = 0; mark < MARKS; mark++) {
                int moment = Bounds.MARK + mark;
                if ((play.there[k] >> mark & 1) != 0) {
                    sure.tell(moment, clock, play.tick[k]);
                }
                if ((play.notYet[k] >> mark & 1) != 0) {
                    sure.tell(clock, moment, -play.tick[k] - 1);
                }
            }
        }

        int byFrames(Told told, Play play, int frames) {
            if (sureOf(told, play, frames).torn) {
                return TORN;
            }
            Kind kind = told.kind[play.kind];
            if (mustHold(kind)) {
                return YES;
            }
            return canHold(kind) ? OPEN : NO;
        }

        private boolean mustHold(Kind kind) {
            for (int i = 0; i < kind.pairs; i++) {
                if (sure.markLess(kind.first[i], kind.second[i]) >= 0) {
                    return false;
                }
            }
            return true;
        }

        private boolean canHold(Kind kind) {
            trial.copyFrom(sure);
            for (int i = 0; i < kind.pairs; i++) {
                trial.tell(Bounds.MARK + kind.first[i], Bounds.MARK + kind.second[i], -1);
            }
            return !trial.torn;
        }

        private static boolean isSure(int verdict) {
            return verdict == YES || verdict == NO;
        }

        /** The call that a PLAY is by all its FRAMES, or another one if that is OPEN or TORN. */
        int trueCall(Told told, Play play, int otherwise) {
            int verdict = byFrames(told, play, play.allFrames());
            return isSure(verdict) ? verdict : otherwise;
        }

        int fewestFrames(Told told, Play play) {
            if (play.fewestFound == Play.UNKNOWN) {
                play.fewestFound = searchFewest(told, play);
            }
            return play.fewestFound;
        }

        private int searchFewest(Told told, Play play) {
            int all = play.allFrames();
            int whole = byFrames(told, play, all);
            if (!isSure(whole)) {
                return CANNOT;
            }
            for (int size = 0; size < play.frames; size++) {
                for (int set = 0; set <= all; set++) {
                    if (Integer.bitCount(set) == size && byFrames(told, play, set) == whole) {
                        return set;
                    }
                }
            }
            return all;
        }

        int keyFrames(Told told, Play play) {
            int all = play.allFrames();
            if (!isSure(byFrames(told, play, all))) {
                return CANNOT;
            }
            int bits = 0;
            for (int k = 0; k < play.frames; k++) {
                if (byFrames(told, play, all & ~(1 << k)) == OPEN) {
                    bits |= 1 << k;
                }
            }
            return bits;
        }

        int fewestCameras(Told told, Play play) {
            int whole = byFrames(told, play, play.allFrames());
            if (!isSure(whole)) {
                return CANNOT;
            }
            int all = told.allCameras();
            for (int size = 0; size < told.cameras; size++) {
                for (int set = 0; set <= all; set++) {
                    if (Integer.bitCount(set) == size && byFrames(told, play, play.framesOf(set)) == whole) {
                        return set;
                    }
                }
            }
            return all;
        }

        int fewestLeftOut(Told told, Play play) {
            if (play.leftOutFound == Play.UNKNOWN) {
                play.leftOutFound = searchLeftOut(told, play);
            }
            return play.leftOutFound;
        }

        private int searchLeftOut(Told told, Play play) {
            if (told.clocks.torn) {
                return CANNOT;
            }
            int all = play.allFrames();
            for (int size = 0; size < play.frames; size++) {
                for (int set = 0; set <= all; set++) {
                    if (Integer.bitCount(set) == size && !sureOf(told, play, all & ~set).torn) {
                        return set;
                    }
                }
            }
            return all;
        }

        /** STANDS, CONFIRMED or OVERTURNED, if the call is this one. */
        int review(Told told, Play play, int call) {
            int each = told.kind[play.kind].seconds;
            int looked = 0;
            int verdict = byFrames(told, play, 0);
            while (verdict == OPEN && looked < play.frames && (looked + 1) * each <= told.setting[LIMIT]) {
                looked++;
                verdict = byFrames(told, play, (1 << looked) - 1);
            }
            reviewFrames = looked;
            reviewSeconds = looked * each;
            if (!isSure(verdict)) {
                return STANDS;
            }
            return verdict == call ? CONFIRMED : OVERTURNED;
        }

        int membersAgainst(Told told, Board board, Play play, int call) {
            int bits = 0;
            for (int m = 0; m < board.members; m++) {
                int verdict = byFrames(told, play, play.framesOf(board.cameras[m]));
                if (isSure(verdict) && verdict != call) {
                    bits |= 1 << m;
                }
            }
            return bits;
        }
    }

    /** THE DAY. */
    private static final class Day {
        int happened;
        /** PLAYS (bits) the call of which is yes now. */
        int yes;
        int reviewed;
        int boarded;
        /** The SIDE whose CHALLENGE was gone by the REVIEW since the PLAY happened last, or NONE. */
        final int[] goneBy = new int[MAX_PLAYS];
        final int[] left = new int[MAX_SIDES];
        final int[] won = new int[MAX_SIDES];
        /** By PLAY, as its MINUTE tells where they belong. */
        final int[] seconds = new int[MAX_PLAYS];
        /** The latest row first. */
        final int[] log = new int[MAX_LOG * LOG_CELLS];
        int logRows;

        void begin(Told told) {
            happened = 0;
            yes = 0;
            reviewed = 0;
            boarded = 0;
            for (int s = 0; s < MAX_SIDES; s++) {
                left[s] = s < told.sides ? told.challenges[s] : 0;
                won[s] = 0;
            }
            Arrays.fill(seconds, 0);
            logRows = 0;
        }

        void copyFrom(Day other) {
            happened = other.happened;
            yes = other.yes;
            reviewed = other.reviewed;
            boarded = other.boarded;
            System.arraycopy(other.goneBy, 0, goneBy, 0, MAX_PLAYS);
            System.arraycopy(other.left, 0, left, 0, MAX_SIDES);
            System.arraycopy(other.won, 0, won, 0, MAX_SIDES);
            System.arraycopy(other.seconds, 0, seconds, 0, MAX_PLAYS);
            System.arraycopy(other.log, 0, log, 0, MAX_LOG * LOG_CELLS);
            logRows = other.logRows;
        }

        void happen(int play, int asTold) {
            happened = play + 1;
            yes = yes & ~(1 << play) | asTold << play;
            goneBy[play] = NONE;
        }

        int call(int play) {
            return yes >> play & 1;
        }

        void turn(int play) {
            yes ^= 1 << play;
        }

        boolean isReviewed(int play) {
            return (reviewed >> play & 1) != 0;
        }

        boolean isBoarded(int play) {
            return (boarded >> play & 1) != 0;
        }

        void restartBehind(int play) {
            happened = play + 1;
            int upToHere = (1 << happened) - 1;
            reviewed &= upToHere;
            boarded &= upToHere;
        }

        void giveBack(int play) {
            int side = goneBy[play];
            if (side >= 0 && side < MAX_SIDES) {
                left[side] = Math.min(left[side] + 1, MAX_CHALLENGES);
            }
        }

        void addLog(int play, int by, int outcome, int took) {
            for (int i = MAX_LOG * LOG_CELLS - 1; i >= LOG_CELLS; i--) {
                log[i] = log[i - LOG_CELLS];
            }
            log[LOG_PLAY] = play;
            log[LOG_BY] = by;
            log[LOG_OUTCOME] = outcome;
            log[LOG_SECONDS] = took;
            logRows = Math.min(logRows + 1, MAX_LOG);
        }
    }
}
