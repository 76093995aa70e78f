/** By request of the grave: a station told as a text, its days, and what is asked about them. */
public final class GraveRequest {
    public static final int NONE = -1;
    public static final long NOTHING = -1000000000000000L;

    private static final int TAPE_BYTES = 1600;
    private static final int FEED_BYTES = 20;
    private static final int MAX_STATEMENTS = 80;
    private static final int MAX_SONGS = 6;
    private static final int MAX_ASKERS = 8;
    private static final int MAX_EARS = 5;
    private static final int MAX_OPEN = 6;
    private static final int SETS = 1 << MAX_ASKERS;
    private static final int NAME_LETTERS = 6;
    private static final int NUMBER_DIGITS = 4;
    private static final int LAST_DAY = 999;
    private static final int MOST_SILENCE = 999;
    private static final int MOST_PLAYED = 999;
    private static final int MOST_MINDED = 99;
    private static final int MOST_SINCE = 99;
    private static final int MOST_VALUE = 1000000;
    private static final int MOST_AHEAD = 60;
    private static final int MOST_FAME_DAYS = 30;
    private static final int MOST_SEEN_DAY = 30;
    private static final int MOST_SEEN_ROWS = 16;
    private static final int MOST_KEPT = 40;
    private static final int MOST_UNDONE = 20;
    private static final int MOST_DAYS = 100;
    private static final int IMAGE_HEAD = 4;
    private static final int IMAGE_ROW = 8;
    private static final int IMAGE_BYTES = IMAGE_HEAD + IMAGE_ROW * MAX_ASKERS + 1;

    /** The words, each in as many signs as a NAME may have letters; a word's place here is its number. */
    private static final String WORDS = "hour  song  long  style asker wants dies  minds ear   taste fades plays worth hush  toll  age   since playedday   numberalive on    or    and   not   all   min   max   first last  often total most  least ";
    private static final int HOUR = 0;
    private static final int SONG = 1;
    private static final int LONG = 2;
    private static final int STYLE = 3;
    private static final int ASKER = 4;
    private static final int WANTS = 5;
    private static final int DIES = 6;
    private static final int MINDS = 7;
    private static final int EAR = 8;
    private static final int TASTE = 9;
    private static final int FADES = 10;
    private static final int PLAYS = 11;
    private static final int WORTH = 12;
    private static final int HUSH = 13;
    private static final int TOLL = 14;
    private static final int AGE = 15;
    private static final int SINCE = 16;
    private static final int PLAYED = 17;
    private static final int DAY = 18;
    private static final int NUMBER = 19;
    private static final int ALIVE = 20;
    private static final int ON = 21;
    private static final int OR = 22;
    private static final int AND = 23;
    private static final int NOT = 24;
    private static final int ALL = 25;
    private static final int MIN = 26;
    private static final int MAX = 27;
    private static final int OWN_WORDS = 28;
    private static final int FIRST = 28;
    private static final int LAST = 29;
    private static final int OFTEN = 30;
    private static final int TOTAL = 31;
    private static final int MOST = 32;
    private static final int LEAST = 33;
    private static final int ALL_WORDS = 34;

    /** What stands in a program: numbers below OP_ADD are themselves, from OP_FACT on a word's fact. */
    private static final int OP_ADD = 10000;
    private static final int OP_SUBTRACT = 10001;
    private static final int OP_MULTIPLY = 10002;
    private static final int OP_DIVIDE = 10003;
    private static final int OP_LESS = 10004;
    private static final int OP_MORE = 10005;
    private static final int OP_SAME = 10006;
    private static final int OP_AND = 10007;
    private static final int OP_OR = 10008;
    private static final int OP_MIN = 10009;
    private static final int OP_MAX = 10010;
    private static final int OP_NOT = 10011;
    private static final int OP_WANTS = 10012;
    private static final int OP_FACT = 10100;

    private static final int FADES_PART = 0;
    private static final int PLAYS_PART = 1;
    private static final int WORTH_PART = 2;
    private static final int PARTS = 3;

    private static final int REFUSED_TAPE = 0;
    private static final int REFUSED_TEXT = 1;
    private static final int REFUSED_WISH = 2;
    private static final int REFUSED_DAYS = 3;
    private static final int REFUSED_UNDO = 4;
    private static final int REFUSED_STATE = 5;
    private static final int REFUSED_KINDS = 6;

    private final byte[] tape = new byte[TAPE_BYTES];
    private int tapeLength = 0;
    private final Reader reader = new Reader();
    private Station told = new Station();
    private Station spare = new Station();
    private boolean onAir = false;
    private int faultKind = 0;
    private int faultPlace = NONE;
    private final Machine machine = new Machine();
    private final State now = new State();
    private final State trial = new State();
    private final History history = new History();
    private final int[][] seen = new int[MOST_SEEN_ROWS][3];
    private int seenRows = 0;
    private final int[] fitting = new int[MOST_MINDED + 1];
    private final int[] picture = new int[IMAGE_BYTES];
    private int pictureLength = 0;
    private final int[] refused = new int[REFUSED_KINDS];
    private int seedNow = 1;

    public GraveRequest() {
    }

    // ---- the tape

    public int feed(int a, int b, int c, int d, int e) {
        if (tapeLength + FEED_BYTES > TAPE_BYTES) {
            refuse(REFUSED_TAPE);
            return NONE;
        }
        putOnTape(a);
        putOnTape(b);
        putOnTape(c);
        putOnTape(d);
        putOnTape(e);
        return tapeLength;
    }

    public boolean end(int n) {
        if (n < 0 || n > tapeLength) {
            refuse(REFUSED_TAPE);
            return false;
        }
        tapeLength = n;
        return true;
    }

    private void putOnTape(int number) {
        for (int shift = 24; shift >= 0; shift -= 8) {
            if (tapeLength < tape.length) {
                tape[tapeLength] = (byte) (number >> shift);
                tapeLength++;
            }
        }
    }

    /** The tape goes; its bytes can be read until the next feed. */
    private int takeTape() {
        int length = tapeLength;
        tapeLength = 0;
        return length;
    }

    private int tapeByte(int k) {
        return k >= 0 && k < tape.length ? tape[k] & 255 : 0;
    }

    private int tapePair(int k) {
        return tapeByte(k) * 256 + tapeByte(k + 1);
    }

    private void refuse(int kind) {
        if (kind >= 0 && kind < refused.length) {
            refused[kind]++;
        }
    }

    // ---- the station

    public int station() {
        reader.readStation(tape, takeTape(), spare);
        keepFault();
        if (faultKind != 0) {
            refuse(REFUSED_TEXT);
            return NONE;
        }
        Station old = told;
        told = spare;
        spare = old;
        onAir = true;
        now.begin(told);
        history.forget();
        seenRows = 0;
        return told.statements;
    }

    public int fault(int what) {
        if (what == 0) {
            return faultKind;
        }
        return what == 1 ? faultPlace : NONE;
    }

    private void keepFault() {
        faultKind = reader.tokens.faultKind;
        faultPlace = reader.tokens.faultPlace;
    }

    public int has(int what) {
        switch (what) {
            case 0: return told.hour;
            case 1: return told.songs;
            case 2: return told.askers;
            case 3: return told.ears;
            case 4: return now.day;
            case 5: return now.silence;
            case 6: return told.askers - countLiving();
            case 7: return countForgotten();
            case 8: return Integer.bitCount(machine.canBits(told, now));
            case 9: return now.keptCount;
            case 10: return seenRows;
            case 11: return history.count;
            default: return NONE;
        }
    }

    private boolean isAsker(int asker) {
        return asker >= 0 && asker < told.askers;
    }

    private boolean isSong(int song) {
        return song >= 0 && song < told.songs;
    }

    private boolean isEar(int ear) {
        return ear >= 0 && ear < told.ears;
    }

    private int countLiving() {
        int count = 0;
        for (int a = 0; a < told.askers; a++) {
            if (!now.isDead(a)) {
                count++;
            }
        }
        return count;
    }

    private int countForgotten() {
        int count = 0;
        for (int a = 0; a < told.askers; a++) {
            if (now.minds[a] == 0) {
                count++;
            }
        }
        return count;
    }

    public int letter(int kind, int which, int k) {
        if (k < 0 || k >= NAME_LETTERS) {
            return NONE;
        }
        if (kind == 0 && isSong(which)) {
            return letterOf(told.songName[which], k);
        }
        if (kind == 1 && isAsker(which)) {
            return letterOf(told.askerName[which], k);
        }
        if (kind == 2 && isEar(which)) {
            return letterOf(told.earName[which], k);
        }
        return NONE;
    }

    private static int letterOf(int name, int k) {
        return (name >> (5 * k)) & 31;
    }

    public int song(int song, int what) {
        if (!isSong(song)) {
            return NONE;
        }
        if (what == 0) {
            return told.songLong[song];
        }
        return what == 1 ? told.songStyle[song] : NONE;
    }

    public int asker(int asker, int what) {
        if (!isAsker(asker)) {
            return NONE;
        }
        switch (what) {
            case 0: return now.song[asker];
            case 1: return now.dies[asker];
            case 2: return now.minds[asker];
            case 3: return now.played[asker];
            case 4: return now.sinceOf(asker);
            case 5: return machine.canPlay(told, now, asker) ? 1 : 0;
            default: return NONE;
        }
    }

    public long worth(int asker) {
        return isAsker(asker) ? machine.worthOf(told, now, asker) : NOTHING;
    }

    public int best(int what) {
        if (!onAir || what < 0 || what > 1) {
            return NONE;
        }
        int bits = machine.bestBits(told, now);
        return what == 0 ? bits : machine.minutesOf(told, now, bits);
    }

    public int kept(int k, int what) {
        if (k < 0 || k >= now.keptCount || k >= MOST_KEPT) {
            return NONE;
        }
        switch (what) {
            case 0: return now.keptDay[k];
            case 1: return now.keptBits[k];
            case 2: return now.keptSilence[k];
            default: return NONE;
        }
    }

    // ---- ahead

    /** Whether there is a DAY behind n more; there is none beyond the last. */
    private boolean hasDayAhead(int n) {
        return onAir && now.day + n <= LAST_DAY;
    }

    private void tryFromNow() {
        trial.copyNow(now);
    }

    private void tryDays(int n) {
        tryFromNow();
        for (int i = 0; i < n; i++) {
            machine.playDay(told, trial, machine.bestBits(told, trial));
        }
    }

    public int later(int n) {
        if (n < 0 || n > MOST_AHEAD || !hasDayAhead(n)) {
            return NONE;
        }
        tryDays(n);
        return machine.bestBits(told, trial);
    }

    public int minded(int asker, int n) {
        if (!isAsker(asker) || n < 0 || n > MOST_AHEAD || !hasDayAhead(n)) {
            return NONE;
        }
        tryDays(n);
        return trial.minds[asker];
    }

    public int nothing() {
        tryFromNow();
        for (int n = 0; n <= MOST_AHEAD && hasDayAhead(n); n++) {
            int bits = machine.bestBits(told, trial);
            if (bits == 0) {
                return n;
            }
            machine.playDay(told, trial, bits);
        }
        return NONE;
    }

    public int hushed() {
        tryFromNow();
        for (int n = 0; n <= MOST_AHEAD && hasDayAhead(n); n++) {
            if (trial.silence == 0) {
                return n;
            }
            machine.playDay(told, trial, machine.bestBits(told, trial));
        }
        return NONE;
    }

    public int full() {
        if (!hasDayAhead(1)) {
            return NONE;
        }
        int can = machine.canBits(told, now);
        int most = 0;
        for (int set = 0; set < SETS && most < 2; set++) {
            int minutes = machine.minutesOf(told, now, set);
            if ((set & can) == set && minutes <= told.hour) {
                int count = minutes == told.hour ? 1 : 0;
                tryFromNow();
                machine.playDay(told, trial, set);
                count += machine.canFill(told, trial) ? 1 : 0;
                most = Math.max(most, count);
            }
        }
        return most;
    }

    public int fame(int asker, int n, int what) {
        if (!isAsker(asker) || n < 1 || n > MOST_FAME_DAYS || !hasDayAhead(n)
                || what < 0 || what > 1) {
            return NONE;
        }
        int famous = 0;
        int most = NONE;
        for (int s = 0; s < told.songs; s++) {
            int count = countPlays(asker, s, n);
            if (count > most) {
                most = count;
                famous = s;
            }
        }
        return what == 0 ? famous : most;
    }

    private int countPlays(int asker, int song, int n) {
        tryFromNow();
        trial.song[asker] = song;
        int count = 0;
        for (int i = 0; i < n; i++) {
            int bits = machine.bestBits(told, trial);
            count += (bits >> asker) & 1;
            machine.playDay(told, trial, bits);
        }
        return count;
    }

    // ---- shares, ears

    public int shared() {
        return machine.shareBits(told, now);
    }

    public int heard(int ear) {
        if (ear != NONE && !isEar(ear)) {
            return NONE;
        }
        int bits = machine.bestBits(told, now);
        machine.pleaseEars(told, now, bits);
        return ear == NONE ? machine.pleased(0, 0) : machine.heardBy(told, now, bits, ear);
    }

    // ---- what was seen

    public int see() {
        int length = takeTape();
        if (!onAir || !isSeenTape(length)) {
            refuse(REFUSED_TEXT);
            return NONE;
        }
        seenRows = length / 3;
        for (int r = 0; r < seenRows; r++) {
            for (int k = 0; k < 3; k++) {
                seen[r][k] = tapeByte(3 * r + k);
            }
        }
        return seenRows;
    }

    private boolean isSeenTape(int length) {
        if (length < 3 || length > 3 * MOST_SEEN_ROWS || length % 3 != 0) {
            return false;
        }
        for (int at = 0; at < length; at += 3) {
            if (tapeByte(at) > MOST_SEEN_DAY || !isAsker(tapeByte(at + 1)) || tapeByte(at + 2) > 1) {
                return false;
            }
        }
        return true;
    }

    public int fits(int asker, int what) {
        if (!isAsker(asker) || what < 0 || what > 2) {
            return NONE;
        }
        int count = findFitting(asker, lastSeenDay());
        if (what == 0) {
            return count;
        }
        return what == 1 ? leastFitting() : greatestFitting();
    }

    private int leastFitting() {
        for (int v = 0; v <= MOST_MINDED; v++) {
            if (fitting[v] != NONE) {
                return v;
            }
        }
        return NONE;
    }

    private int greatestFitting() {
        for (int v = MOST_MINDED; v >= 0; v--) {
            if (fitting[v] != NONE) {
                return v;
            }
        }
        return NONE;
    }

    /**
     * For each number by which the asker can be minded the days on which he is played then, up to one, as bits;
     * NONE where that is not as SEEN. How many are.
     */
    private int findFitting(int asker, int lastDay) {
        boolean canBe = hasDayAhead(lastSeenDay());
        int count = 0;
        for (int v = 0; v <= MOST_MINDED; v++) {
            boolean agrees = canBe;
            int playedBits = 0;
            tryFromNow();
            trial.minds[asker] = v;
            for (int d = 0; d <= lastDay && agrees && hasDayAhead(d); d++) {
                int bits = machine.bestBits(told, trial);
                agrees = rowsAgree(d, bits);
                playedBits |= ((bits >> asker) & 1) << d;
                machine.playDay(told, trial, bits);
            }
            fitting[v] = agrees ? playedBits : NONE;
            count += agrees ? 1 : 0;
        }
        return count;
    }

    private int lastSeenDay() {
        int last = NONE;
        for (int r = 0; r < seenRows; r++) {
            last = Math.max(last, seen[r][0]);
        }
        return last;
    }

    private boolean rowsAgree(int ahead, int bits) {
        for (int r = 0; r < seenRows; r++) {
            if (seen[r][0] == ahead && ((bits >> seen[r][1]) & 1) != seen[r][2]) {
                return false;
            }
        }
        return true;
    }

    public int tells(int asker, int what) {
        if (!isAsker(asker) || what < 0 || what > 1) {
            return NONE;
        }
        int count = findFitting(asker, MOST_SEEN_DAY);
        if (count == 0) {
            return NONE;
        }
        int telling = NONE;
        int fewest = 0;
        for (int d = 0; d <= MOST_SEEN_DAY && hasDayAhead(d); d++) {
            int played = countFittingPlayed(d);
            int left = Math.max(played, count - played);
            if (telling == NONE || left < fewest) {
                telling = d;
                fewest = left;
            }
        }
        return what == 0 ? telling : fewest;
    }

    private int countFittingPlayed(int ahead) {
        int count = 0;
        for (int v = 0; v <= MOST_MINDED; v++) {
            if (fitting[v] != NONE) {
                count += (fitting[v] >> ahead) & 1;
            }
        }
        return count;
    }

    // ---- acts

    public boolean want(int asker, int song) {
        if (!isAsker(asker) || !isSong(song) || now.song[asker] == song) {
            refuse(REFUSED_WISH);
            return false;
        }
        history.remember(now);
        now.song[asker] = song;
        return true;
    }

    public int mourn(int asker, int much) {
        if (!isAsker(asker) || much < 1 || much > MOST_MINDED || now.minds[asker] >= MOST_MINDED) {
            refuse(REFUSED_WISH);
            return NONE;
        }
        history.remember(now);
        now.minds[asker] = Math.min(MOST_MINDED, now.minds[asker] + much);
        return now.minds[asker];
    }

    private boolean canPass(int n) {
        return n >= 1 && n <= MOST_DAYS && hasDayAhead(n);
    }

    public int days(int n) {
        if (!canPass(n)) {
            refuse(REFUSED_DAYS);
            return NONE;
        }
        history.remember(now);
        int count = 0;
        for (int i = 0; i < n; i++) {
            count += passDay();
        }
        return count;
    }

    /** A DAY, KEPT: how many requests were played. */
    private int passDay() {
        int bits = machine.bestBits(told, now);
        int day = now.day;
        int spaced = machine.playDay(told, now, bits);
        now.keep(day, bits, spaced);
        return Integer.bitCount(bits);
    }

    public int chance(int n) {
        if (!canPass(n)) {
            refuse(REFUSED_DAYS);
            return NONE;
        }
        history.remember(now);
        int deaths = 0;
        for (int i = 0; i < n; i++) {
            deaths += drawDeath();
            passDay();
        }
        return deaths;
    }

    /** One who is not dead dies today, if the seed wills it: how many did. */
    private int drawDeath() {
        int roll = draw(100);
        int living = countLiving();
        if (roll >= told.toll || living == 0) {
            return 0;
        }
        int pick = draw(living);
        for (int a = 0; a < told.askers; a++) {
            if (!now.isDead(a)) {
                if (pick == 0) {
                    now.dies[a] = now.day;
                    return 1;
                }
                pick--;
            }
        }
        return 0;
    }

    private int draw(int m) {
        seedNow = (int) ((1103515245L * seedNow + 12345L) & 0x7fffffffL);
        return m > 0 ? (seedNow / 64) % m : 0;
    }

    public boolean undo() {
        if (history.count == 0) {
            refuse(REFUSED_UNDO);
            return false;
        }
        history.takeBack(now);
        return true;
    }

    public boolean seed(int seed) {
        if (seed < 0) {
            refuse(REFUSED_STATE);
            return false;
        }
        seedNow = seed;
        return true;
    }

    // ---- questions

    public long ask() {
        int length = takeTape();
        if (!onAir) {
            return NOTHING;
        }
        reader.readQuestion(tape, length);
        keepFault();
        return faultKind != 0 ? NOTHING : answer(reader.form);
    }

    private long answer(int form) {
        int bits = machine.bestBits(told, now);
        long result = form == FIRST || form == LAST ? NONE : 0;
        for (int a = 0; a < told.askers; a++) {
            machine.lookAt(told, now, a);
            machine.lookOn((bits >> a) & 1);
            long value = machine.valueOf(reader.question, 0);
            if (form == FIRST) {
                result = value != 0 && result == NONE ? a : result;
            } else if (form == LAST) {
                result = value != 0 ? a : result;
            } else if (form == OFTEN || form == TOTAL) {
                result += value;
            } else if (form == MOST) {
                result = a == 0 ? value : Math.max(result, value);
            } else {
                result = a == 0 ? value : Math.min(result, value);
            }
        }
        return result;
    }

    // ---- images, refusals

    public int image() {
        pictureLength = 0;
        drawPair(now.day);
        drawPair(now.silence);
        for (int a = 0; a < told.askers; a++) {
            drawByte(now.song[a]);
            drawPair(now.dies[a]);
            drawByte(now.minds[a]);
            drawPair(now.last[a] + 1);
            drawPair(now.played[a]);
        }
        int check = 151;
        for (int k = 0; k < pictureLength; k++) {
            check = (3 * check + picture[k]) % 251;
        }
        drawByte(check);
        return pictureLength;
    }

    private void drawByte(int value) {
        if (pictureLength < picture.length) {
            picture[pictureLength] = value & 255;
            pictureLength++;
        }
    }

    private void drawPair(int value) {
        drawByte(value >> 8);
        drawByte(value);
    }

    public int octet(int k) {
        return k >= 0 && k < pictureLength && k < IMAGE_BYTES ? picture[k] : NONE;
    }

    public boolean on() {
        int length = takeTape();
        if (!onAir || !isImageTape(length)) {
            refuse(REFUSED_STATE);
            return false;
        }
        now.day = tapePair(0);
        now.silence = tapePair(2);
        for (int a = 0; a < told.askers; a++) {
            int at = IMAGE_HEAD + IMAGE_ROW * a;
            now.song[a] = tapeByte(at);
            now.dies[a] = tapePair(at + 1);
            now.minds[a] = tapeByte(at + 3);
            now.last[a] = tapePair(at + 4) - 1;
            now.played[a] = tapePair(at + 6);
        }
        now.keptCount = 0;
        history.forget();
        return true;
    }

    private boolean isImageTape(int length) {
        if (length != IMAGE_HEAD + IMAGE_ROW * told.askers + 1) {
            return false;
        }
        int check = 151;
        for (int k = 0; k < length - 1; k++) {
            check = (3 * check + tapeByte(k)) % 251;
        }
        if (check != tapeByte(length - 1) || tapePair(0) > LAST_DAY || tapePair(2) > MOST_SILENCE) {
            return false;
        }
        for (int a = 0; a < told.askers; a++) {
            int at = IMAGE_HEAD + IMAGE_ROW * a;
            if (!isSong(tapeByte(at)) || tapePair(at + 1) > LAST_DAY || tapeByte(at + 3) > MOST_MINDED
                    || tapePair(at + 4) - 1 > tapePair(0) || tapePair(at + 6) > MOST_PLAYED) {
                return false;
            }
        }
        return true;
    }

    public int status(int what) {
        return what >= 0 && what < REFUSED_KINDS ? refused[what] : NONE;
    }

    /** Texts of SUMS and TESTS, the operands ahead of their operator. */
    private static final class Program {
        private final int[] ops = new int[TAPE_BYTES];
        private int length = 0;
        private final int[] from = new int[PARTS];
        private final int[] to = new int[PARTS];
        private final boolean[] given = new boolean[PARTS];

        private void empty() {
            length = 0;
            for (int p = 0; p < PARTS; p++) {
                from[p] = 0;
                to[p] = 0;
                given[p] = false;
            }
        }

        private void add(int op) {
            if (length < ops.length) {
                ops[length] = op;
                length++;
            }
        }

        private boolean hasPart(int part) {
            return part >= 0 && part < PARTS && given[part];
        }

        private void beginPart(int part) {
            if (part >= 0 && part < PARTS) {
                given[part] = true;
                from[part] = length;
                to[part] = length;
            }
        }

        private void endPart(int part) {
            if (part >= 0 && part < PARTS) {
                to[part] = length;
            }
        }
    }

    /** What the text of a station tells. */
    private static final class Station {
        private int statements = 0;
        private int hour = 0;
        private int hush = 0;
        private int toll = 0;
        private int songs = 0;
        private final int[] songName = new int[MAX_SONGS];
        private final int[] songLong = new int[MAX_SONGS];
        private final int[] songStyle = new int[MAX_SONGS];
        private int askers = 0;
        private final int[] askerName = new int[MAX_ASKERS];
        private final int[] askerSong = new int[MAX_ASKERS];
        private final int[] askerDies = new int[MAX_ASKERS];
        private final int[] askerMinds = new int[MAX_ASKERS];
        private int ears = 0;
        private final int[] earName = new int[MAX_EARS];
        private final int[] earTaste = new int[MAX_EARS];
        private final Program program = new Program();

        private void empty() {
            statements = 0;
            hour = 0;
            hush = 0;
            toll = 0;
            songs = 0;
            askers = 0;
            ears = 0;
            program.empty();
        }

        private void addSong(int name, int minutes, int style) {
            if (songs < MAX_SONGS) {
                songName[songs] = name;
                songLong[songs] = minutes;
                songStyle[songs] = style;
                songs++;
            }
        }

        private void addAsker(int name, int song, int dies, int minds) {
            if (askers < MAX_ASKERS) {
                askerName[askers] = name;
                askerSong[askers] = song;
                askerDies[askers] = dies;
                askerMinds[askers] = minds;
                askers++;
            }
        }

        private void addEar(int name, int taste) {
            if (ears < MAX_EARS) {
                earName[ears] = name;
                earTaste[ears] = taste;
                ears++;
            }
        }

        private int findSong(int name) {
            for (int s = 0; s < songs; s++) {
                if (songName[s] == name) {
                    return s;
                }
            }
            return NONE;
        }

        private boolean hasName(int name) {
            if (findSong(name) != NONE) {
                return true;
            }
            for (int a = 0; a < askers; a++) {
                if (askerName[a] == name) {
                    return true;
                }
            }
            for (int e = 0; e < ears; e++) {
                if (earName[e] == name) {
                    return true;
                }
            }
            return false;
        }

        private int longOf(int song) {
            return song >= 0 && song < songs ? songLong[song] : 0;
        }

        private int styleOf(int song) {
            return song >= 0 && song < songs ? songStyle[song] : 0;
        }

        private void addDefaults() {
            if (!program.hasPart(FADES_PART)) {
                program.beginPart(FADES_PART);
                program.add(OP_FACT + MINDS);
                program.add(1);
                program.add(OP_SUBTRACT);
                program.endPart(FADES_PART);
            }
            if (!program.hasPart(PLAYS_PART)) {
                program.beginPart(PLAYS_PART);
                program.add(1);
                program.endPart(PLAYS_PART);
            }
            if (!program.hasPart(WORTH_PART)) {
                program.beginPart(WORTH_PART);
                program.add(OP_FACT + MINDS);
                program.endPart(WORTH_PART);
            }
        }
    }

    /** The words, numbers and signs of a text, one after another, and the first FAULT in it. */
    private static final class Tokens {
        private static final int BEFORE = 0;
        private static final int WORD = 1;
        private static final int DIGITS = 2;
        private static final int SIGN = 3;
        private static final int GLUED = 4;
        private static final int ENDED = 5;
        private static final int STOPPED = 6;

        private final int[] wordNames = new int[ALL_WORDS];
        private byte[] text = new byte[0];
        private int length = 0;
        private int kind = BEFORE;
        private int start = 0;
        private int end = 0;
        private int name = 0;
        private int faultKind = 0;
        private int faultPlace = NONE;

        private Tokens() {
            for (int w = 0; w < ALL_WORDS; w++) {
                wordNames[w] = packWord(w);
            }
        }

        /** A word of WORDS as names are held: five bits a letter, the first letter lowest. */
        private static int packWord(int w) {
            int packed = 0;
            for (int k = 0; k < NAME_LETTERS; k++) {
                int at = w * NAME_LETTERS + k;
                if (at >= 0 && at < WORDS.length() && WORDS.charAt(at) != ' ') {
                    packed |= (WORDS.charAt(at) - 'a' + 1) << (5 * k);
                }
            }
            return packed;
        }

        private void read(byte[] bytes, int byteCount) {
            text = bytes;
            length = Math.max(0, Math.min(byteCount, bytes.length));
            kind = BEFORE;
            start = 0;
            end = 0;
            faultKind = 0;
            faultPlace = NONE;
            take();
        }

        /** Only the first FAULT counts; behind it nothing is read, so that no rule goes on. */
        private void fail(int fault, int place) {
            if (faultKind == 0) {
                faultKind = fault;
                faultPlace = place;
            }
            kind = STOPPED;
        }

        private boolean goesOn() {
            return kind != ENDED && kind != STOPPED;
        }

        /** Goes to the next word, number or sign. */
        private void take() {
            if (kind == STOPPED) {
                return;
            }
            boolean needsBlank = kind == WORD || kind == DIGITS;
            int at = end;
            while (at < length && (text[at] == ' ' || text[at] == 10)) {
                at++;
            }
            int first = at < length ? text[at] : 0;
            boolean letter = first >= 'a' && first <= 'z';
            boolean digit = first >= '0' && first <= '9';
            boolean glued = needsBlank && at == end;
            start = at;
            name = 0;
            if (at >= length) {
                kind = ENDED;
            } else if (glued && (letter || digit)) {
                kind = GLUED;
                at++;
            } else if (letter) {
                kind = WORD;
                while (at < length && text[at] >= 'a' && text[at] <= 'z') {
                    int k = at - start;
                    name |= k < NAME_LETTERS ? (text[at] - 'a' + 1) << (5 * k) : 0;
                    at++;
                }
            } else if (digit) {
                kind = DIGITS;
                while (at < length && text[at] >= '0' && text[at] <= '9') {
                    at++;
                }
            } else {
                kind = SIGN;
                at++;
            }
            end = at;
        }

        private boolean isSign(char sign) {
            return kind == SIGN && start >= 0 && start < length && text[start] == sign;
        }

        private boolean isWord(int wanted) {
            return kind == WORD && end - start <= NAME_LETTERS
                    && wanted >= 0 && wanted < ALL_WORDS && wordNames[wanted] == name;
        }

        /** The number of the word that stands here; NONE without one that is known. */
        private int knownWord() {
            if (kind == WORD && end - start <= NAME_LETTERS) {
                for (int w = 0; w < ALL_WORDS; w++) {
                    if (wordNames[w] == name) {
                        return w;
                    }
                }
            }
            return NONE;
        }

        private void needSign(char sign) {
            if (isSign(sign)) {
                take();
            } else {
                fail(1, start);
            }
        }

        private void needWord(int wanted) {
            if (isWord(wanted)) {
                take();
            } else {
                fail(1, start);
            }
        }

        private int needNumber(int least, int greatest) {
            if (kind != DIGITS) {
                fail(1, start);
                return 0;
            }
            int value = 0;
            for (int at = start; at < end && at < length && at < start + NUMBER_DIGITS; at++) {
                value = 10 * value + text[at] - '0';
            }
            if (end - start > NUMBER_DIGITS) {
                fail(1, start + NUMBER_DIGITS);
            } else if (value < least || value > greatest) {
                fail(2, start);
            } else {
                take();
            }
            return value;
        }

        /** Whether a NAME stands here; if not, that is the FAULT. */
        private boolean standsName() {
            int known = knownWord();
            if (kind != WORD || (known >= 0 && known < OWN_WORDS)) {
                fail(1, start);
            } else if (end - start > NAME_LETTERS) {
                fail(1, start + NAME_LETTERS);
            }
            return kind == WORD;
        }
    }

    /** Reads stations and questions. Each rule stands on its first token and leaves the one behind it. */
    private static final class Reader {
        private final Tokens tokens = new Tokens();
        private final Program question = new Program();
        private Program out = question;
        private boolean asking = false;
        private boolean ofSongs = false;
        private int form = NONE;

        private void readStation(byte[] text, int length, Station into) {
            into.empty();
            out = into.program;
            asking = false;
            tokens.read(text, length);
            for (int i = 0; i <= MAX_STATEMENTS && tokens.goesOn(); i++) {
                if (i == MAX_STATEMENTS) {
                    tokens.fail(5, tokens.start);
                } else {
                    readStatement(into);
                }
            }
            if (into.statements == 0) {
                tokens.fail(1, tokens.start);
            }
            into.addDefaults();
        }

        private void readQuestion(byte[] text, int length) {
            question.empty();
            out = question;
            asking = true;
            ofSongs = true;
            tokens.read(text, length);
            form = tokens.knownWord();
            if (form < FIRST || form > LEAST) {
                tokens.fail(1, tokens.start);
                return;
            }
            tokens.take();
            out.beginPart(0);
            if (form == FIRST || form == LAST || form == OFTEN) {
                readTest(0);
            } else {
                readSum(0);
            }
            out.endPart(0);
            if (tokens.kind != Tokens.ENDED) {
                tokens.fail(1, tokens.start);
            }
        }

        private void readStatement(Station into) {
            int word = tokens.knownWord();
            if ((word == HOUR) != (into.statements == 0)) {
                tokens.fail(1, tokens.start);
                return;
            }
            switch (word) {
                case HOUR:
                    tokens.take();
                    into.hour = tokens.needNumber(1, 60);
                    break;
                case SONG:
                    readSong(into);
                    break;
                case ASKER:
                    readAsker(into);
                    break;
                case EAR:
                    readEar(into);
                    break;
                case FADES:
                    readPart(FADES_PART);
                    break;
                case PLAYS:
                    readPart(PLAYS_PART);
                    break;
                case WORTH:
                    readPart(WORTH_PART);
                    break;
                case HUSH:
                    tokens.take();
                    into.hush = tokens.needNumber(0, MOST_SILENCE);
                    break;
                case TOLL:
                    tokens.take();
                    into.toll = tokens.needNumber(0, 100);
                    break;
                default:
                    tokens.fail(1, tokens.start);
                    break;
            }
            tokens.needSign(';');
            into.statements++;
        }

        private void readSong(Station into) {
            if (into.songs >= MAX_SONGS) {
                tokens.fail(5, tokens.start);
                return;
            }
            tokens.take();
            int name = readNewName(into);
            tokens.needWord(LONG);
            int minutes = tokens.needNumber(1, 60);
            tokens.needWord(STYLE);
            int style = tokens.needNumber(0, 9);
            into.addSong(name, minutes, style);
        }

        private void readAsker(Station into) {
            if (into.askers >= MAX_ASKERS) {
                tokens.fail(5, tokens.start);
                return;
            }
            tokens.take();
            int name = readNewName(into);
            tokens.needWord(WANTS);
            int song = readSongName(into);
            tokens.needWord(DIES);
            int dies = tokens.needNumber(0, 99);
            tokens.needWord(MINDS);
            int minds = tokens.needNumber(0, MOST_MINDED);
            into.addAsker(name, song, dies, minds);
        }

        private void readEar(Station into) {
            if (into.ears >= MAX_EARS) {
                tokens.fail(5, tokens.start);
                return;
            }
            tokens.take();
            int name = readNewName(into);
            tokens.needWord(TASTE);
            int taste = tokens.needNumber(0, 9);
            into.addEar(name, taste);
        }

        private void readPart(int part) {
            if (out.hasPart(part)) {
                tokens.fail(5, tokens.start);
                return;
            }
            tokens.take();
            ofSongs = part != FADES_PART;
            out.beginPart(part);
            if (part == PLAYS_PART) {
                readTest(0);
            } else {
                readSum(0);
            }
            out.endPart(part);
        }

        private int readNewName(Station into) {
            if (!tokens.standsName()) {
                return 0;
            }
            int name = tokens.name;
            if (into.hasName(name)) {
                tokens.fail(3, tokens.start);
            }
            tokens.take();
            return name;
        }

        private int readSongName(Station into) {
            if (!tokens.standsName()) {
                return 0;
            }
            int song = into.findSong(tokens.name);
            if (song == NONE) {
                tokens.fail(3, tokens.start);
            }
            tokens.take();
            return Math.max(song, 0);
        }

        /** Whether one more of ( [ not wants may be open; open are those around it. */
        private boolean mayOpen(int open) {
            if (open >= MAX_OPEN) {
                tokens.fail(4, tokens.start);
            }
            return open < MAX_OPEN;
        }

        private void readTest(int open) {
            readBoth(open);
            for (int i = 0; i < TAPE_BYTES && tokens.isWord(OR); i++) {
                tokens.take();
                readBoth(open);
                out.add(OP_OR);
            }
        }

        private void readBoth(int open) {
            readFact(open);
            for (int i = 0; i < TAPE_BYTES && tokens.isWord(AND); i++) {
                tokens.take();
                readFact(open);
                out.add(OP_AND);
            }
        }

        private void readFact(int open) {
            if (tokens.isWord(NOT)) {
                if (mayOpen(open)) {
                    tokens.take();
                    readFact(open + 1);
                    out.add(OP_NOT);
                }
            } else if (tokens.isSign('[')) {
                if (mayOpen(open)) {
                    tokens.take();
                    readTest(open + 1);
                    tokens.needSign(']');
                }
            } else if (tokens.isWord(ALL)) {
                tokens.take();
                out.add(1);
            } else {
                readSum(open);
                int op = comparison();
                if (op == NONE) {
                    tokens.fail(1, tokens.start);
                } else {
                    tokens.take();
                    readSum(open);
                    out.add(op);
                }
            }
        }

        private int comparison() {
            if (tokens.isSign('<')) {
                return OP_LESS;
            }
            if (tokens.isSign('>')) {
                return OP_MORE;
            }
            return tokens.isSign('=') ? OP_SAME : NONE;
        }

        private void readSum(int open) {
            readProduct(open);
            for (int i = 0; i < TAPE_BYTES && (tokens.isSign('+') || tokens.isSign('-')); i++) {
                int op = tokens.isSign('+') ? OP_ADD : OP_SUBTRACT;
                tokens.take();
                readProduct(open);
                out.add(op);
            }
        }

        private void readProduct(int open) {
            readPiece(open);
            for (int i = 0; i < TAPE_BYTES && (tokens.isSign('*') || tokens.isSign('/')); i++) {
                int op = tokens.isSign('*') ? OP_MULTIPLY : OP_DIVIDE;
                tokens.take();
                readPiece(open);
                out.add(op);
            }
        }

        /** What the document calls a PART. */
        private void readPiece(int open) {
            if (tokens.kind == Tokens.DIGITS) {
                out.add(tokens.needNumber(0, 9999));
            } else if (isFact(tokens.knownWord())) {
                out.add(OP_FACT + tokens.knownWord());
                tokens.take();
            } else if (asking && tokens.isWord(WANTS)) {
                if (mayOpen(open)) {
                    tokens.take();
                    readPiece(open + 1);
                    out.add(OP_WANTS);
                }
            } else if (tokens.isSign('(')) {
                if (mayOpen(open)) {
                    tokens.take();
                    readSum(open + 1);
                    tokens.needSign(')');
                }
            } else if (tokens.isWord(MIN) || tokens.isWord(MAX)) {
                readPair(open);
            } else {
                tokens.fail(1, tokens.start);
            }
        }

        private void readPair(int open) {
            int op = tokens.isWord(MIN) ? OP_MIN : OP_MAX;
            tokens.take();
            if (!tokens.isSign('(')) {
                tokens.fail(1, tokens.start);
            } else if (mayOpen(open)) {
                tokens.take();
                readSum(open + 1);
                tokens.needSign(',');
                readSum(open + 1);
                tokens.needSign(')');
                out.add(op);
            }
        }

        private boolean isFact(int word) {
            switch (word) {
                case MINDS:
                case AGE:
                case SINCE:
                case PLAYED:
                case DAY:
                    return true;
                case LONG:
                case STYLE:
                    return ofSongs;
                case NUMBER:
                case ALIVE:
                case ON:
                    return asking;
                default:
                    return false;
            }
        }
    }

    /** All that DAYS and ACTS change. */
    private static final class State {
        private int day = 0;
        private int silence = 0;
        private final int[] song = new int[MAX_ASKERS];
        private final int[] dies = new int[MAX_ASKERS];
        private final int[] minds = new int[MAX_ASKERS];
        private final int[] last = new int[MAX_ASKERS];
        private final int[] played = new int[MAX_ASKERS];
        private int keptCount = 0;
        private final int[] keptDay = new int[MOST_KEPT];
        private final int[] keptBits = new int[MOST_KEPT];
        private final int[] keptSilence = new int[MOST_KEPT];

        private void begin(Station told) {
            day = 0;
            silence = told.hush;
            keptCount = 0;
            for (int a = 0; a < MAX_ASKERS; a++) {
                song[a] = told.askerSong[a];
                dies[a] = told.askerDies[a];
                minds[a] = told.askerMinds[a];
                last[a] = NONE;
                played[a] = 0;
            }
        }

        /** All but what is KEPT. */
        private void copyNow(State from) {
            day = from.day;
            silence = from.silence;
            System.arraycopy(from.song, 0, song, 0, MAX_ASKERS);
            System.arraycopy(from.dies, 0, dies, 0, MAX_ASKERS);
            System.arraycopy(from.minds, 0, minds, 0, MAX_ASKERS);
            System.arraycopy(from.last, 0, last, 0, MAX_ASKERS);
            System.arraycopy(from.played, 0, played, 0, MAX_ASKERS);
        }

        private void copyAll(State from) {
            copyNow(from);
            keptCount = from.keptCount;
            System.arraycopy(from.keptDay, 0, keptDay, 0, MOST_KEPT);
            System.arraycopy(from.keptBits, 0, keptBits, 0, MOST_KEPT);
            System.arraycopy(from.keptSilence, 0, keptSilence, 0, MOST_KEPT);
        }

        private void keep(int keepDay, int bits, int spaced) {
            if (keptCount >= MOST_KEPT) {
                System.arraycopy(keptDay, 1, keptDay, 0, MOST_KEPT - 1);
                System.arraycopy(keptBits, 1, keptBits, 0, MOST_KEPT - 1);
                System.arraycopy(keptSilence, 1, keptSilence, 0, MOST_KEPT - 1);
                keptCount = MOST_KEPT - 1;
            }
            keptDay[keptCount] = keepDay;
            keptBits[keptCount] = bits;
            keptSilence[keptCount] = spaced;
            keptCount++;
        }

        private boolean isDead(int asker) {
            return day >= dies[asker];
        }

        private int ageOf(int asker) {
            return Math.max(0, day - dies[asker]);
        }

        private int sinceOf(int asker) {
            return last[asker] == NONE ? MOST_SINCE : Math.min(MOST_SINCE, day - last[asker]);
        }
    }

    /** How all was ahead of the last ACTS, the oldest first. */
    private static final class History {
        private final State[] states = new State[MOST_UNDONE];
        private int count = 0;

        private History() {
            for (int i = 0; i < MOST_UNDONE; i++) {
                states[i] = new State();
            }
        }

        private void forget() {
            count = 0;
        }

        private void remember(State now) {
            if (count >= MOST_UNDONE) {
                State oldest = states[0];
                for (int i = 1; i < MOST_UNDONE; i++) {
                    states[i - 1] = states[i];
                }
                states[MOST_UNDONE - 1] = oldest;
                count = MOST_UNDONE - 1;
            }
            states[count].copyAll(now);
            count++;
        }

        private void takeBack(State now) {
            if (count > 0) {
                count--;
                now.copyAll(states[count]);
            }
        }
    }

    /** Reckons programs, programmes and days; its rows are used again by every call. */
    private static final class Machine {
        private static final int STACK = 128;

        private final int[] stack = new int[STACK];
        private final int[] facts = new int[OWN_WORDS];
        private final int[] choice = new int[MAX_ASKERS];
        private final int[] setLong = new int[SETS];
        private final int[] setWorth = new int[SETS];
        private final int[][] pleasing = new int[MAX_EARS + 1][SETS];

        private void lookAt(Station told, State state, int asker) {
            int song = state.song[asker];
            facts[MINDS] = state.minds[asker];
            facts[AGE] = state.ageOf(asker);
            facts[SINCE] = state.sinceOf(asker);
            facts[PLAYED] = state.played[asker];
            facts[DAY] = state.day;
            facts[LONG] = told.longOf(song);
            facts[STYLE] = told.styleOf(song);
            facts[NUMBER] = asker;
            facts[ALIVE] = state.isDead(asker) ? 0 : 1;
            facts[WANTS] = song;
        }

        private void lookOn(int on) {
            facts[ON] = on;
        }

        /** By the facts of the one looked at; a TEST that holds is 1. */
        private int valueOf(Program program, int part) {
            if (part < 0 || part >= PARTS) {
                return 0;
            }
            int top = 0;
            for (int i = program.from[part]; i < program.to[part] && i < TAPE_BYTES; i++) {
                int op = program.ops[i];
                if (op < OP_ADD || op >= OP_FACT) {
                    if (top < STACK) {
                        stack[top] = op < OP_ADD ? op : factOf(op - OP_FACT);
                        top++;
                    }
                } else if (op == OP_NOT || op == OP_WANTS) {
                    if (top >= 1) {
                        int wanted = op == OP_NOT ? 0 : facts[WANTS];
                        stack[top - 1] = stack[top - 1] == wanted ? 1 : 0;
                    }
                } else if (top >= 2) {
                    top--;
                    stack[top - 1] = join(op, stack[top - 1], stack[top]);
                }
            }
            return top > 0 ? stack[0] : 0;
        }

        private int factOf(int word) {
            return word >= 0 && word < OWN_WORDS ? facts[word] : 0;
        }

        private static int join(int op, int a, int b) {
            long value;
            switch (op) {
                case OP_ADD: value = (long) a + b; break;
                case OP_SUBTRACT: value = (long) a - b; break;
                case OP_MULTIPLY: value = (long) a * b; break;
                case OP_DIVIDE: value = b == 0 ? 0 : Math.floorDiv(a, b); break;
                case OP_LESS: value = a < b ? 1 : 0; break;
                case OP_MORE: value = a > b ? 1 : 0; break;
                case OP_SAME: value = a == b ? 1 : 0; break;
                case OP_AND: value = a & b; break;
                case OP_OR: value = a | b; break;
                case OP_MIN: value = Math.min(a, b); break;
                case OP_MAX: value = Math.max(a, b); break;
                default: value = 0; break;
            }
            return (int) Math.max(-MOST_VALUE, Math.min(MOST_VALUE, value));
        }

        private boolean canPlay(Station told, State state, int asker) {
            if (!state.isDead(asker) || state.minds[asker] == 0) {
                return false;
            }
            lookAt(told, state, asker);
            return valueOf(told.program, PLAYS_PART) != 0;
        }

        private int canBits(Station told, State state) {
            int bits = 0;
            for (int a = 0; a < told.askers; a++) {
                if (canPlay(told, state, a)) {
                    bits |= 1 << a;
                }
            }
            return bits;
        }

        private int worthOf(Station told, State state, int asker) {
            lookAt(told, state, asker);
            return valueOf(told.program, WORTH_PART);
        }

        private int minutesOf(Station told, State state, int bits) {
            int sum = 0;
            for (int a = 0; a < told.askers; a++) {
                if (((bits >> a) & 1) == 1) {
                    sum += told.longOf(state.song[a]);
                }
            }
            return sum;
        }

        /** Puts those who CAN be played side by side, and adds up every set of them: how many. */
        private int gather(Station told, State state) {
            int count = 0;
            setLong[0] = 0;
            setWorth[0] = 0;
            for (int a = 0; a < told.askers && a < MAX_ASKERS; a++) {
                if (canPlay(told, state, a)) {
                    choice[count] = a;
                    addToSets(1 << count, told.longOf(state.song[a]), worthOf(told, state, a));
                    count++;
                }
            }
            return count;
        }

        private void addToSets(int bit, int minutes, int worth) {
            for (int rest = 0; rest < bit && bit + rest < SETS; rest++) {
                setLong[bit + rest] = setLong[rest] + minutes;
                setWorth[bit + rest] = setWorth[rest] + worth;
            }
        }

        /** The gathered ones of a set as ASKERS; of two sets the lesser stays so. */
        private int spread(int set, int count) {
            int bits = 0;
            for (int i = 0; i < count && i < MAX_ASKERS; i++) {
                bits |= ((set >> i) & 1) << choice[i];
            }
            return bits;
        }

        /** The BEST PROGRAMME. Sets come by rising bits, so that only a better one takes the place. */
        private int bestBits(Station told, State state) {
            int count = gather(told, state);
            int best = 0;
            for (int set = 1; set < (1 << count) && set < SETS; set++) {
                if (setLong[set] <= told.hour && isBetter(set, best)) {
                    best = set;
                }
            }
            return spread(best, count);
        }

        private boolean isBetter(int set, int best) {
            return setWorth[set] > setWorth[best]
                    || (setWorth[set] == setWorth[best] && setLong[set] < setLong[best]);
        }

        /** SHARED; the two sides have all together, so that with the less the other one is told, too. */
        private int shareBits(Station told, State state) {
            int count = gather(told, state);
            int all = Math.min(1 << count, SETS) - 1;
            int first = 0;
            int most = Math.min(setWorth[0], setWorth[all]);
            for (int set = 1; set <= all; set++) {
                int less = Math.min(setWorth[set], setWorth[all - set]);
                if (less > most) {
                    most = less;
                    first = set;
                }
            }
            return spread(first, count);
        }

        /** A DAY with a PROGRAMME: how many minutes of SILENCE. */
        private int playDay(Station told, State state, int bits) {
            int left = told.hour - minutesOf(told, state, bits);
            for (int a = 0; a < told.askers; a++) {
                if (((bits >> a) & 1) == 1) {
                    state.played[a] = Math.min(MOST_PLAYED, state.played[a] + 1);
                    state.last[a] = state.day;
                }
            }
            int spaced = Math.max(0, Math.min(left, state.silence));
            state.silence -= spaced;
            for (int a = 0; a < told.askers; a++) {
                if (state.isDead(a)) {
                    lookAt(told, state, a);
                    int fades = valueOf(told.program, FADES_PART);
                    state.minds[a] = Math.max(0, Math.min(MOST_MINDED, fades));
                }
            }
            state.day = Math.min(LAST_DAY, state.day + 1);
            return spaced;
        }

        /** Whether some PROGRAMME is just as long as the hour; bit m: m minutes can be played. */
        private boolean canFill(Station told, State state) {
            long reach = 1L;
            for (int a = 0; a < told.askers; a++) {
                if (canPlay(told, state, a)) {
                    reach |= reach << told.longOf(state.song[a]);
                }
            }
            return ((reach >> told.hour) & 1L) == 1L;
        }

        /** How much the EARS from one on are pleased at most, by the set of those heard ahead of it. */
        private void pleaseEars(Station told, State state, int bits) {
            for (int e = MAX_EARS; e >= 0; e--) {
                for (int used = 0; used < SETS; used++) {
                    int most = e < told.ears ? pleasing[e + 1][used] : 0;
                    for (int a = 0; a < told.askers && e < told.ears; a++) {
                        if (((bits & ~used) >> a & 1) == 1) {
                            most = Math.max(most, pleasedBy(told, state, e, a) + pleased(e + 1, used | 1 << a));
                        }
                    }
                    pleasing[e][used] = most;
                }
            }
        }

        private int pleased(int ear, int used) {
            return ear >= 0 && ear <= MAX_EARS && used >= 0 && used < SETS ? pleasing[ear][used] : 0;
        }

        private static int pleasedBy(Station told, State state, int ear, int asker) {
            return 9 - Math.abs(told.styleOf(state.song[asker]) - told.earTaste[ear]);
        }

        /** The ASKER that an EAR hears in the first of the most pleasing rows; behind pleaseEars. */
        private int heardBy(Station told, State state, int bits, int ear) {
            int used = 0;
            int heard = NONE;
            for (int e = 0; e <= ear && e < told.ears; e++) {
                heard = NONE;
                for (int a = 0; a < told.askers && pleased(e + 1, used) != pleased(e, used) && heard == NONE; a++) {
                    if (((bits & ~used) >> a & 1) == 1 && pleasedBy(told, state, e, a)
                            + pleased(e + 1, used | 1 << a) == pleased(e, used)) {
                        heard = a;
                    }
                }
                if (heard != NONE) {
                    used |= 1 << heard;
                }
            }
            return heard;
        }
    }
}
