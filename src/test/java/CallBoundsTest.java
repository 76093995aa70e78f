import java.util.function.ToLongFunction;

/** Promises 1 to 34: each sentence that names a boundary case or a refusal has a test of its own here, in the document's order. */
public final class CallBoundsTest {
    private static final int NONE = GraveRequest.NONE;
    private static final long NOTHING = GraveRequest.NOTHING;
    private static final int MIN = Integer.MIN_VALUE;
    private static final int MAX = Integer.MAX_VALUE;
    private static final String SONGS = "hour 10;song p long 5 style 0;song q long 6 style 9;";
    private static final String TWO = SONGS + "asker a wants p dies 0 minds 9;asker b wants q dies 50 minds 99;ear e taste 3;hush 99;toll 50;";

    public static void main(String[] args) {
        newObject();
        tapeFull();
        tapeCut();
        stationRefused();
        stationAnew();
        stationWithFewer();
        faultOfOthers();
        hasOfOthers();
        letterOfOthers();
        songOfOthers();
        askerOfOthers();
        worthOfOthers();
        bestOfOthers();
        keptOfOthers();
        laterOfOthers();
        mindedOfOthers();
        nothingAndHushed();
        fullBeyond();
        fameOfOthers();
        sharedWithoutStation();
        heardOfOthers();
        seeRefused();
        fitsOfOthers();
        fitsBeyond();
        tellsOfOthers();
        wantRefused();
        mournRefused();
        daysRefused();
        chanceRefused();
        undoRefused();
        seedRefused();
        askWithoutStation();
        askWithFault();
        imageBytes();
        octetOfOthers();
        onRefused();
        onAtBounds();
        onForgets();
        statusOfOthers();
        Check.end("CallBoundsTest");
    }

    /** Numbers of which there are none, where there are so many from 0 on. */
    private static int[] others(int count) {
        return new int[] {MIN, MIN + 1, -2, -1, count, count + 1, 256, 65536, MAX};
    }

    /** A station behind some DAYS, with ACTS to undo, something KEPT and SEEN. */
    private static Check prepared(String title) {
        Check c = new Check(title);
        c.station(TWO);
        c.x.days(3);
        c.x.want(1, 0);
        c.sees(1, 1, 0, 1);
        return c;
    }

    /** A call that is refused: it answers so, it is counted once and in one place, all else stays. */
    private static void refused(Check c, int kind, String call, ToLongFunction<GraveRequest> made, long due) {
        String before = c.all();
        int[] counts = new int[6];
        for (int k = 0; k < 6; k++) {
            counts[k] = c.x.status(k);
        }
        c.due(call, made.applyAsLong(c.x), due);
        for (int k = 0; k < 6; k++) {
            c.due("status(" + k + ") behind " + call, c.x.status(k), counts[k] + (k == kind ? 1 : 0));
        }
        c.stays(call, before);
    }

    private static long bit(boolean b) {
        return b ? 1 : 0;
    }

    // ---- 1 to 5

    private static void newObject() {
        Check c = new Check("promise 1: No station, no askers");
        for (int what = 0; what < 12; what++) {
            c.due("has(" + what + ")", c.x.has(what), 0);
        }
        for (int k = 0; k < 6; k++) {
            c.due("status(" + k + ")", c.x.status(k), 0);
            c.due("letter(" + k % 3 + ", 0, " + k + ")", c.x.letter(k % 3, 0, k), NONE);
            c.due("asker(0, " + k + ")", c.x.asker(0, k), NONE);
        }
        long[] none = {c.x.fault(1), c.x.song(0, 0), c.x.song(0, 1), c.x.best(0), c.x.best(1), c.x.kept(0, 0), c.x.later(0), c.x.minded(0, 0),
            c.x.nothing(), c.x.hushed(), c.x.full(), c.x.fame(0, 1, 0), c.x.fame(0, 1, 1), c.x.heard(0), c.x.fits(0, 0), c.x.fits(0, 1), c.x.tells(0, 0), c.x.octet(0)};
        for (int i = 0; i < none.length; i++) {
            c.due("call " + i + " without a station", none[i], NONE);
        }
        c.due("fault(0)", c.x.fault(0), 0);
        c.due("worth(0)", c.x.worth(0), NOTHING);
        c.due("shared()", c.x.shared(), 0);
        c.due("heard(NONE)", c.x.heard(NONE), 0);
        for (int k = 0; k < 6; k++) {
            c.due("status(" + k + "), nothing was refused", c.x.status(k), 0);
        }
        refused(c, 0, "end(1)", x -> bit(x.end(1)), 0);
        refused(c, 1, "station()", x -> x.station(), NONE);
        refused(c, 1, "see()", x -> x.see(), NONE);
        refused(c, 2, "want(0, 0)", x -> bit(x.want(0, 0)), 0);
        refused(c, 2, "mourn(0, 1)", x -> x.mourn(0, 1), NONE);
        refused(c, 3, "days(1)", x -> x.days(1), NONE);
        refused(c, 3, "chance(1)", x -> x.chance(1), NONE);
        refused(c, 4, "undo()", x -> bit(x.undo()), 0);
        refused(c, 5, "on()", x -> bit(x.on()), 0);
    }

    private static int feedBlanks(GraveRequest x) {
        return x.feed(0x20202020, 0x20202020, 0x20202020, 0x20202020, 0x20202020);
    }

    private static void tapeFull() {
        Check c = new Check("promise 2: NONE, refused (0), if there would be more than 1600");
        c.due("feed", c.x.feed(0x686f7572, 0x20393b20, 0x20202020, 0x20202020, 0x20202020), 20);
        for (int i = 2; i <= 80; i++) {
            c.due("feed, the " + i + ".", feedBlanks(c.x), 20 * i);
        }
        refused(c, 0, "feed, the 81.", x -> x.feed(0x7a7a7a7a, 0, 0, 0, 0), NONE);
        c.due("end(1601)", c.x.end(1601), false);
        c.due("end(1600), all are there", c.x.end(1600), true);
        c.due("station(), nothing came behind", c.x.station(), 1);
        for (int i = 1; i <= 80; i++) {
            feedBlanks(c.x);
        }
        for (int n = 1599; n > 1580; n--) {
            c.x.end(n);
            c.due("feed behind " + n, feedBlanks(c.x), NONE);
        }
        c.x.end(1580);
        c.due("feed behind 1580", feedBlanks(c.x), 1600);
        c = new Check("promise 2: of each number the highest first");
        c.station("hour 5;");
        // -1222631392 is 183 and three blanks: 0, 0, 0, 0, 183 is an image of this station
        c.x.feed(0, -1222631392, 0, 0, 0);
        c.x.end(5);
        c.due("on()", c.x.on(), true);
        c.due("feed, the tape has gone", feedBlanks(c.x), 20);
        longText();
    }

    private static void longText() {
        Check c = new Check("promises 2, 4: a text of 1600 bytes");
        String text = "hour 9;song s long 1 style 1;asker a wants s dies 0 minds 1;worth " + "1+".repeat(766) + "1;";
        c.station(text + " ".repeat(1600 - text.length()));
        c.due("worth(0)", c.x.worth(0), 767);
        c.faulty(1, text.substring(0, text.length() - 1) + " ".repeat(1600 - text.length() + 1) + "^");
    }

    private static void tapeCut() {
        Check c = new Check("promise 3: The tape has its first n bytes alone");
        c.tape("hour 9;hush 5;toll 7;");
        c.due("end(14)", c.x.end(14), true);
        c.due("station(), of 14 bytes", c.x.station(), 2);
        c.due("has(5)", c.x.has(5), 5);
        c.tape("hour 9;hush 5;");
        for (int n : new int[] {15, 20, 1600, MAX, -1, MIN}) {
            refused(c, 0, "end(" + n + ")", x -> bit(x.end(n)), 0);
        }
        c.due("station(), refused calls cut nothing", c.x.station(), 2);
        c.tape("hour 9;hush 5;");
        c.due("end(14), all of them", c.x.end(14), true);
        c.due("end(7)", c.x.end(7), true);
        c.due("end(8), gone", c.x.end(8), false);
        c.due("station()", c.x.station(), 1);
        c.tape("hour 9;");
        c.due("end(0)", c.x.end(0), true);
        c.due("end(1)", c.x.end(1), false);
        c.due("station(), of nothing", c.x.station(), NONE);
    }

    private static void stationRefused() {
        String title = "promise 4: NONE, refused (1), with a FAULT (all stays; one without a STATEMENT has FAULT 1 at its length)";
        Object[][] rows = {{"", 1, 0}, {" ", 1, 1}, {" \n\n ", 1, 4}, {" ".repeat(1600), 1, 1600}, {"hour 0;", 2, 5}, {"hour 5;song z long 1 style 1;asker y wants x", 3, 43},
            {"hour 5;hush 1;worth (((((((", 4, 26}, {"hour 5;fades 1;fades 1;", 5, 15}, {"hour 5;hush 1", 1, 13}};
        for (Object[] row : rows) {
            Check c = prepared(title);
            c.tape((String) row[0]);
            refused(c, 1, "station() of \"" + row[0] + "\"", x -> x.station(), NONE);
            c.due("fault(0)", c.x.fault(0), (Integer) row[1]);
            c.due("fault(1)", c.x.fault(1), (Integer) row[2]);
            c.due("the tape goes", c.x.end(1), false);
            c.due("undo(), it can be still", c.x.undo(), true);
        }
    }

    private static void stationAnew() {
        Check c = prepared("promise 4: Without one all is as at first, nothing is KEPT, SEEN or can be undone; the seed stays");
        c.x.mourn(0, 50);
        c.x.seed(42);
        c.station(TWO);
        String behind = c.all();
        Check first = new Check("a new object");
        first.station(TWO);
        c.due("all is as at first: " + behind, behind.equals(first.all()), true);
        c.due("has(9)", c.x.has(9), 0);
        c.due("has(10)", c.x.has(10), 0);
        c.due("has(11)", c.x.has(11), 0);
        c.due("kept(0, 0)", c.x.kept(0, 0), NONE);
        c.due("undo()", c.x.undo(), false);
        c.due("the tape goes", c.x.end(1), false);
        // 42 draws 0, 1 would draw 18
        c.station(SONGS + "asker a wants p dies 50 minds 9;toll 1;");
        c.due("chance(1), the seed is 42", c.x.chance(1), 1);
    }

    /** Of a station with more of all kinds nothing is left behind one with fewer. */
    private static void stationWithFewer() {
        Check c = new Check("promise 4: all is as at first");
        String more = "hour 60;" + Check.many("song s", " long 1 style 5;", 6) + Check.many("asker a", " wants sf dies 0 minds 9;", 8) + Check.many("ear e", " taste 5;", 5) + "hush 99;toll 100;";
        c.station(more);
        c.x.days(2);
        c.station("hour 5;song p long 6 style 0;asker a wants p dies 0 minds 1;ear e taste 0;");
        int[] due = {5, 1, 1, 1, 0, 0, 1, 0, 1, 0, 0, 0};
        for (int what = 0; what < due.length; what++) {
            c.due("has(" + what + ")", c.x.has(what), due[what]);
        }
        c.due("best(0)", c.x.best(0), 0);
        c.due("shared()", c.x.shared(), 0);
        c.due("full()", c.x.full(), 0);
        c.due("fame(0, 9, 0)", c.x.fame(0, 9, 0), 0);
        c.due("fame(0, 9, 1)", c.x.fame(0, 9, 1), 0);
        c.due("heard(NONE)", c.x.heard(NONE), 0);
        c.due("image()", c.x.image(), 13);
        c.asks("total 1", 1);
        c.asks("last all", 0);
        c.due("chance(1), no toll", c.x.chance(1), 0);
        c.due("kept(0, 1)", c.x.kept(0, 1), 0);
        c.station(more);
        c.station("hour 9;toll 100;");
        c.due("has(6), no asker", c.x.has(6), 0);
        c.due("has(7), no asker", c.x.has(7), 0);
        c.due("has(8), no asker", c.x.has(8), 0);
        c.due("best(0), no asker", c.x.best(0), 0);
        c.due("shared(), no asker", c.x.shared(), 0);
        c.due("heard(NONE), no ear", c.x.heard(NONE), 0);
        c.due("days(1), no asker", c.x.days(1), 0);
        c.due("chance(9), no asker", c.x.chance(9), 0);
        c.asks("often all", 0);
    }

    private static void faultOfOthers() {
        Check c = new Check("promise 5: 0 without, and ahead of any; its place (NONE without). NONE for another what");
        c.due("fault(0), ahead of any", c.x.fault(0), 0);
        c.due("fault(1), ahead of any", c.x.fault(1), NONE);
        c.tape("hour 61;");
        c.x.station();
        c.due("fault(0)", c.x.fault(0), 2);
        c.due("fault(1)", c.x.fault(1), 5);
        for (int what : others(2)) {
            c.due("fault(" + what + ")", c.x.fault(what), NONE);
        }
        c.station("hour 60;");
        c.tape("first");
        c.x.ask();
        c.due("fault(0), of ask()", c.x.fault(0), 1);
        c.due("fault(1), of ask()", c.x.fault(1), 5);
        c.asks("first all", NONE);
        c.tape("x");
        c.x.station();
        c.due("fault(0)", c.x.fault(0), 1);
        c.due("fault(1)", c.x.fault(1), 0);
        // refused calls of other kinds leave it
        c.x.see();
        c.x.on();
        c.x.undo();
        c.due("fault(0), still", c.x.fault(0), 1);
        c.station("hour 60;");
    }

    // ---- 6 to 12

    private static void hasOfOthers() {
        Check c = prepared("promise 6: NONE for others");
        int[] due = {10, 2, 2, 1, 3, 84, 1, 0, 1, 3, 1, 2};
        for (int what = 0; what < due.length; what++) {
            c.due("has(" + what + ")", c.x.has(what), due[what]);
        }
        for (int what : others(12)) {
            c.due("has(" + what + ")", c.x.has(what), NONE);
        }
    }

    private static void letterOfOthers() {
        Check c = new Check("promise 7: Letter k (0 .. 5); 0 behind it; NONE when there is none such");
        c.station("hour 9;song z long 1 style 1;song zyxwvu long 1 style 1;asker abcde wants z dies 1 minds 1;ear fgh taste 1;");
        int[][] rows = {{0, 0, 26, 0, 0, 0, 0, 0}, {0, 1, 26, 25, 24, 23, 22, 21}, {1, 0, 1, 2, 3, 4, 5, 0}, {2, 0, 6, 7, 8, 0, 0, 0}};
        for (int[] row : rows) {
            for (int k = 0; k < 6; k++) {
                c.due("letter(" + row[0] + ", " + row[1] + ", " + k + ")", c.x.letter(row[0], row[1], k), row[2 + k]);
            }
            for (int k : others(6)) {
                c.due("letter(" + row[0] + ", " + row[1] + ", " + k + ")", c.x.letter(row[0], row[1], k), NONE);
            }
        }
        int[] counts = {2, 1, 1};
        for (int kind = 0; kind < 3; kind++) {
            for (int which : others(counts[kind])) {
                c.due("letter(" + kind + ", " + which + ", 0)", c.x.letter(kind, which, 0), NONE);
            }
        }
        for (int kind : others(3)) {
            c.due("letter(" + kind + ", 0, 0)", c.x.letter(kind, 0, 0), NONE);
        }
    }

    private static void songOfOthers() {
        Check c = new Check("promise 8: NONE when there is none such, or for others");
        c.station("hour 9;" + Check.many("song s", " long 60 style 9;", 6));
        c.due("song(5, 0)", c.x.song(5, 0), 60);
        c.due("song(5, 1)", c.x.song(5, 1), 9);
        for (int song : others(6)) {
            c.due("song(" + song + ", 0)", c.x.song(song, 0), NONE);
            c.due("song(" + song + ", 1)", c.x.song(song, 1), NONE);
        }
        for (int what : others(2)) {
            c.due("song(0, " + what + ")", c.x.song(0, what), NONE);
        }
    }

    private static void askerOfOthers() {
        Check c = prepared("promise 9: NONE when there is none such, or for others");
        int[][] due = {{0, 0, 6, 3, 1, 1}, {0, 50, 99, 0, 99, 0}};
        for (int asker = 0; asker < 2; asker++) {
            for (int what = 0; what < 6; what++) {
                c.due("asker(" + asker + ", " + what + ")", c.x.asker(asker, what), due[asker][what]);
            }
            for (int what : others(6)) {
                c.due("asker(" + asker + ", " + what + ")", c.x.asker(asker, what), NONE);
            }
        }
        for (int asker : others(2)) {
            for (int what = 0; what < 6; what++) {
                c.due("asker(" + asker + ", " + what + ")", c.x.asker(asker, what), NONE);
            }
        }
    }

    private static void worthOfOthers() {
        Check c = new Check("promise 10: dead or not; age is 0 then; NOTHING when there is none such");
        c.station(SONGS + "asker a wants p dies 3 minds 9;worth 100*age+minds;");
        for (int day = 0; day < 6; day++) {
            long[] due = {9, 9, 9, 9, 108, 207};
            c.due("worth(0), DAY " + day, c.x.worth(0), due[day]);
            c.x.days(1);
        }
        for (int asker : others(1)) {
            c.due("worth(" + asker + ")", c.x.worth(asker), NOTHING);
        }
        c.station(SONGS + "asker a wants p dies 0 minds 9;worth 0-1;");
        c.due("worth(0), NONE is a worth, too", c.x.worth(0), -1);
        c.station(SONGS + "asker a wants p dies 0 minds 0;");
        c.due("worth(0), FORGOTTEN", c.x.worth(0), 0);
    }

    private static void bestOfOthers() {
        Check c = new Check("promise 11: NONE without a station, or for others");
        c.due("best(0), no station", c.x.best(0), NONE);
        c.due("best(1), no station", c.x.best(1), NONE);
        c.tape("hour 0;");
        c.x.station();
        c.due("best(0), one with a FAULT", c.x.best(0), NONE);
        c.station("hour 1;");
        c.due("best(0)", c.x.best(0), 0);
        c.due("best(1)", c.x.best(1), 0);
        for (int what : others(2)) {
            c.due("best(" + what + ")", c.x.best(what), NONE);
        }
    }

    private static void keptOfOthers() {
        Check c = prepared("promise 12: the k-th from the oldest on; NONE when there is none such, or for others");
        for (int k = 0; k < 3; k++) {
            c.due("kept(" + k + ", 0)", c.x.kept(k, 0), k);
            c.due("kept(" + k + ", 1)", c.x.kept(k, 1), 1);
            c.due("kept(" + k + ", 2)", c.x.kept(k, 2), 5);
            for (int what : others(3)) {
                c.due("kept(" + k + ", " + what + ")", c.x.kept(k, what), NONE);
            }
        }
        for (int k : others(3)) {
            c.due("kept(" + k + ", 0)", c.x.kept(k, 0), NONE);
        }
        c.x.days(100);
        for (int k : others(40)) {
            c.due("kept(" + k + ", 0), 40 are told", c.x.kept(k, 0), NONE);
        }
        c.due("kept(39, 0)", c.x.kept(39, 0), 102);
    }

    // ---- 13 to 20

    private static void laterOfOthers() {
        Check c = new Check("promise 13: (0 .. 60; 0 today); NONE when n can't be, or without a station");
        c.due("later(0), no station", c.x.later(0), NONE);
        c.due("later(1), no station", c.x.later(1), NONE);
        c.station(TWO);
        String before = c.all();
        c.due("later(0)", c.x.later(0), 1);
        c.due("later(8)", c.x.later(8), 1);
        c.due("later(9)", c.x.later(9), 0);
        c.due("later(49)", c.x.later(49), 0);
        c.due("later(50)", c.x.later(50), 2);
        c.due("later(60)", c.x.later(60), 2);
        for (int n : others(61)) {
            c.due("later(" + n + ")", c.x.later(n), NONE);
        }
        c.stays("later()", before);
        c.due("status(3), none is refused", c.x.status(3), 0);
    }

    private static void mindedOfOthers() {
        Check c = new Check("promise 14: (0 .. 60); NONE when there is none such, or n can't be");
        c.station(TWO);
        String before = c.all();
        c.due("minded(0, 0)", c.x.minded(0, 0), 9);
        c.due("minded(0, 9)", c.x.minded(0, 9), 0);
        c.due("minded(0, 60)", c.x.minded(0, 60), 0);
        c.due("minded(1, 50)", c.x.minded(1, 50), 99);
        c.due("minded(1, 51)", c.x.minded(1, 51), 98);
        c.due("minded(1, 60)", c.x.minded(1, 60), 89);
        for (int n : others(61)) {
            c.due("minded(0, " + n + ")", c.x.minded(0, n), NONE);
        }
        for (int asker : others(2)) {
            c.due("minded(" + asker + ", 0)", c.x.minded(asker, 0), NONE);
        }
        c.stays("minded()", before);
    }

    private static void nothingAndHushed() {
        Check c = new Check("promises 15, 16: NONE when none has, when there always is, or without a station");
        c.due("nothing(), no station", c.x.nothing(), NONE);
        c.due("hushed(), no station", c.x.hushed(), NONE);
        c.station("hour 1;");
        c.due("nothing(), 0: today", c.x.nothing(), 0);
        c.due("hushed(), 0: now", c.x.hushed(), 0);
        c.station("hour 5;song p long 5 style 0;asker a wants p dies 0 minds 1;hush 5;");
        c.due("nothing(), tomorrow", c.x.nothing(), 1);
        c.due("hushed(), behind tomorrow", c.x.hushed(), 2);
        c.station("hour 5;song p long 5 style 0;asker a wants p dies 0 minds 1;hush 5;fades minds;");
        String before = c.all();
        c.due("nothing(), none has", c.x.nothing(), NONE);
        c.due("hushed(), there always is", c.x.hushed(), NONE);
        c.stays("nothing(), hushed()", before);
    }

    private static void fullBeyond() {
        Check c = new Check("promise 17: (0 .. 2); NONE beyond DAY 999, or without a station");
        c.due("full(), no station", c.x.full(), NONE);
        c.station("hour 1;");
        c.due("full(), 0", c.x.full(), 0);
        c.turnsOn(true, 3, 230, 0, 0);
        c.due("full(), DAY 998", c.x.full(), 0);
        c.turnsOn(true, 3, 231, 0, 0);
        c.due("full(), DAY 999", c.x.full(), NONE);
        c.station("hour 5;song p long 5 style 0;asker a wants p dies 0 minds 1;");
        String before = c.all();
        c.due("full(), 1", c.x.full(), 1);
        c.stays("full()", before);
        c.station("hour 5;song p long 5 style 0;asker a wants p dies 0 minds 2;");
        c.due("full(), 2", c.x.full(), 2);
    }

    private static void fameOfOthers() {
        Check c = new Check("promise 18: n DAYS AHEAD (1 .. 30); NONE when there is none such, n can't be, or for others");
        c.due("fame(0, 1, 0), no station", c.x.fame(0, 1, 0), NONE);
        c.station(TWO);
        String before = c.all();
        c.due("fame(0, 1, 1)", c.x.fame(0, 1, 1), 1);
        c.due("fame(0, 9, 1)", c.x.fame(0, 9, 1), 9);
        c.due("fame(0, 30, 1)", c.x.fame(0, 30, 1), 9);
        c.due("fame(0, 0, 0)", c.x.fame(0, 0, 0), NONE);
        c.due("fame(0, 0, 1)", c.x.fame(0, 0, 1), NONE);
        for (int n : others(31)) {
            c.due("fame(0, " + n + ", 0)", c.x.fame(0, n, 0), NONE);
            c.due("fame(0, " + n + ", 1)", c.x.fame(0, n, 1), NONE);
        }
        for (int asker : others(2)) {
            c.due("fame(" + asker + ", 1, 0)", c.x.fame(asker, 1, 0), NONE);
        }
        for (int what : others(2)) {
            c.due("fame(0, 1, " + what + ")", c.x.fame(0, 1, what), NONE);
        }
        c.stays("fame()", before);
    }

    private static void sharedWithoutStation() {
        Check c = new Check("promise 19: the ASKERS of the first STATION, as bits");
        c.due("shared(), no station", c.x.shared(), 0);
        c.station("hour 1;");
        c.due("shared(), no asker", c.x.shared(), 0);
        c.station("hour 1;song p long 60 style 0;" + Check.many("asker a", " wants p dies 0 minds 1;", 6) + "asker x wants p dies 0 minds 4;asker y wants p dies 0 minds 4;");
        // 14 in all: the six and one of 4 are 3 and 4 too many; three of 1 and a 4
        c.due("shared(), all eight", c.x.shared(), 7 + 64);
    }

    private static void heardOfOthers() {
        Check c = new Check("promise 20: how much all are pleased (ear NONE), the ASKER whose request an EAR hears (NONE). NONE when there is none such");
        c.station(SONGS + "asker a wants p dies 0 minds 9;ear e taste 3;ear f taste 2;");
        c.due("heard(NONE)", c.x.heard(NONE), 7);
        c.due("heard(0), it hears none", c.x.heard(0), NONE);
        c.due("heard(1)", c.x.heard(1), 0);
        for (int ear : others(2)) {
            if (ear != NONE) {
                c.due("heard(" + ear + ")", c.x.heard(ear), NONE);
            }
        }
        c.station(SONGS + Check.many("ear e", " taste 0;", 5));
        for (int ear = 0; ear < 5; ear++) {
            c.due("heard(" + ear + "), nothing is played", c.x.heard(ear), NONE);
        }
        c.due("heard(NONE), nothing is played", c.x.heard(NONE), 0);
    }

    // ---- 21 to 23

    private static void seeRefused() {
        String title = "promise 21: 1 to 16 rows of three bytes; NONE, refused (1), all staying, when it is none such, or without a station";
        int[][] wrong = {{}, {0}, {0, 0}, {0, 0, 0, 0}, {0, 0, 0, 0, 0}, {31, 0, 0}, {255, 0, 0}, {0, 2, 0}, {0, 8, 0}, {0, 255, 0}, {0, 0, 2}, {0, 0, 255},
            {0, 0, 0, 31, 0, 0}, {0, 0, 0, 0, 2, 0}, {0, 0, 0, 0, 0, 2}, new int[49], new int[51], new int[1599]};
        for (int[] bytes : wrong) {
            Check c = prepared(title);
            c.bytes(bytes);
            refused(c, 1, "see() of " + java.util.Arrays.toString(bytes), x -> x.see(), NONE);
            c.due("the tape goes", c.x.end(1), false);
        }
        Check c = prepared("promise 21: how many rows");
        int[][] right = {{0, 0, 0}, {30, 1, 1}, {0, 0, 0, 0, 0, 1}, new int[45], new int[48]};
        for (int[] bytes : right) {
            c.sees(bytes.length / 3, bytes);
            c.due("has(10)", c.x.has(10), bytes.length / 3);
            c.due("the tape goes", c.x.end(1), false);
        }
        int[] last = new int[48];
        last[45] = 30;
        last[46] = 1;
        last[47] = 1;
        c.sees(16, last);
        // the 16th row counts: he is not dead on that DAY
        c.due("fits(1, 0)", c.x.fits(1, 0), 0);
        c.station("hour 5;");
        c.sees(NONE, 0, 0, 0);
        c = new Check("promise 21: without a station");
        c.sees(NONE, 0, 0, 0);
        c.due("status(1)", c.x.status(1), 1);
        c.due("the tape goes", c.x.end(1), false);
    }

    private static void fitsOfOthers() {
        Check c = new Check("promise 22: all, if nothing is; NONE of these without; NONE when there is none such, or for others");
        c.due("fits(0, 0), no station", c.x.fits(0, 0), NONE);
        c.station(TWO);
        int[] all = {100, 0, 99};
        for (int what = 0; what < 3; what++) {
            c.due("fits(0, " + what + "), nothing is SEEN", c.x.fits(0, what), all[what]);
            c.due("fits(1, " + what + "), nothing is SEEN", c.x.fits(1, what), all[what]);
        }
        for (int what : others(3)) {
            c.due("fits(0, " + what + ")", c.x.fits(0, what), NONE);
        }
        for (int asker : others(2)) {
            c.due("fits(" + asker + ", 0)", c.x.fits(asker, 0), NONE);
        }
        c.sees(1, 0, 1, 1);
        c.due("fits(0, 0), without", c.x.fits(0, 0), 0);
        c.due("fits(0, 1), without", c.x.fits(0, 1), NONE);
        c.due("fits(0, 2), without", c.x.fits(0, 2), NONE);
        c.due("asker(0, 2), all stays", c.x.asker(0, 2), 9);
    }

    private static void fitsBeyond() {
        Check c = new Check("promise 22: DAYS beyond 999 are by none");
        c.station(SONGS + "asker a wants p dies 0 minds 9;fades minds;");
        for (int ahead : new int[] {0, 1, 30}) {
            for (int played = 0; played < 2; played++) {
                c.sees(1, ahead, 0, played);
                int day = 999 - ahead;
                c.turnsOn(true, day >> 8, day & 255, 0, 0, 0, 0, 0, 9, 0, 0, 0, 0);
                c.due("fits(0, 0), DAY 999, " + ahead + " ahead", c.x.fits(0, 0), played == 1 ? 99 : 1);
                c.due("tells(0, 0), DAY 999, " + ahead + " ahead", c.x.tells(0, 0), 0);
                day++;
                if (day < 1000) {
                    c.turnsOn(true, day >> 8, day & 255, 0, 0, 0, 0, 0, 9, 0, 0, 0, 0);
                    c.due("fits(0, 0), DAY 1000, " + ahead + " ahead", c.x.fits(0, 0), 0);
                    c.due("fits(0, 1), DAY 1000, " + ahead + " ahead", c.x.fits(0, 1), NONE);
                    c.due("fits(0, 2), DAY 1000, " + ahead + " ahead", c.x.fits(0, 2), NONE);
                    c.due("tells(0, 0), DAY 1000, " + ahead + " ahead", c.x.tells(0, 0), NONE);
                    c.due("tells(0, 1), DAY 1000, " + ahead + " ahead", c.x.tells(0, 1), NONE);
                }
            }
        }
        // one row beyond is enough
        c.sees(2, 0, 0, 1, 1, 0, 1);
        c.turnsOn(true, 3, 231, 0, 0, 0, 0, 0, 9, 0, 0, 0, 0);
        c.due("fits(0, 0), one row of two beyond", c.x.fits(0, 0), 0);
        c.station(SONGS + "asker a wants p dies 0 minds 9;fades minds;");
        c.turnsOn(true, 3, 231, 0, 0, 0, 0, 0, 9, 0, 0, 0, 0);
        c.due("fits(0, 0), DAY 999, nothing is SEEN", c.x.fits(0, 0), 100);
    }

    private static void tellsOfOthers() {
        Check c = new Check("promise 23: NONE without a number, when there is none such, or for others");
        c.due("tells(0, 0), no station", c.x.tells(0, 0), NONE);
        c.station(TWO);
        c.due("tells(0, 0)", c.x.tells(0, 0), 30);
        c.due("tells(0, 1)", c.x.tells(0, 1), 69);
        c.due("tells(1, 0), he is not dead", c.x.tells(1, 0), 0);
        c.due("tells(1, 1), he is not dead", c.x.tells(1, 1), 100);
        for (int what : others(2)) {
            c.due("tells(0, " + what + ")", c.x.tells(0, what), NONE);
        }
        for (int asker : others(2)) {
            c.due("tells(" + asker + ", 0)", c.x.tells(asker, 0), NONE);
        }
        c.sees(1, 0, 1, 1);
        c.due("tells(0, 0), without a number", c.x.tells(0, 0), NONE);
        c.due("tells(0, 1), without a number", c.x.tells(0, 1), NONE);
    }

    // ---- 24 to 29

    private static void wantRefused() {
        String title = "promise 24: false, refused (2), when he wants it, or there are none such";
        refused(prepared(title), 2, "want(0, 0), he wants it", x -> bit(x.want(0, 0)), 0);
        refused(prepared(title), 2, "want(1, 0), he wants it now", x -> bit(x.want(1, 0)), 0);
        for (int other : others(2)) {
            refused(prepared(title), 2, "want(" + other + ", 1)", x -> bit(x.want(other, 1)), 0);
            refused(prepared(title), 2, "want(0, " + other + ")", x -> bit(x.want(0, other)), 0);
        }
        Check c = prepared("promise 24: An ASKER wants another SONG");
        c.due("want(1, 1)", c.x.want(1, 1), true);
        c.due("asker(1, 0)", c.x.asker(1, 0), 1);
        c.due("has(11)", c.x.has(11), 3);
        c.due("want(1, 0), again", c.x.want(1, 0), true);
        c.due("status(2)", c.x.status(2), 0);
        c.station(SONGS);
        refused(c, 2, "want(0, 0), no asker", x -> bit(x.want(0, 0)), 0);
    }

    private static void mournRefused() {
        String title = "promise 25: by so much more (1 .. 99); NONE, refused (2), when he is minded by 99, there is none such, or for others";
        for (int much : others(100)) {
            refused(prepared(title), 2, "mourn(0, " + much + ")", x -> x.mourn(0, much), NONE);
        }
        refused(prepared(title), 2, "mourn(0, 0)", x -> x.mourn(0, 0), NONE);
        refused(prepared(title), 2, "mourn(1, 1), minded by 99", x -> x.mourn(1, 1), NONE);
        refused(prepared(title), 2, "mourn(1, 99), minded by 99", x -> x.mourn(1, 99), NONE);
        for (int asker : others(2)) {
            refused(prepared(title), 2, "mourn(" + asker + ", 1)", x -> x.mourn(asker, 1), NONE);
        }
        Check c = prepared("promise 25: how much he is");
        c.due("mourn(0, 1)", c.x.mourn(0, 1), 7);
        c.due("mourn(0, 91)", c.x.mourn(0, 91), 98);
        c.due("mourn(0, 99), 99 at most", c.x.mourn(0, 99), 99);
        c.due("has(11)", c.x.has(11), 5);
        refused(c, 2, "mourn(0, 1), minded by 99 now", x -> x.mourn(0, 1), NONE);
    }

    private static void daysRefused() {
        String title = "promise 26: n DAYS (1 .. 100); NONE, refused (3), when it can't be, or without a station";
        for (int n : others(101)) {
            refused(prepared(title), 3, "days(" + n + ")", x -> x.days(n), NONE);
        }
        refused(prepared(title), 3, "days(0)", x -> x.days(0), NONE);
        refused(new Check(title), 3, "days(1), no station", x -> x.days(1), NONE);
        Check c = prepared("promise 26: how many requests were played");
        // a is minded by 6: he is played six times more, b from DAY 50 on
        c.due("days(1)", c.x.days(1), 1);
        c.due("days(100)", c.x.days(100), 5 + 54);
        c.due("has(4)", c.x.has(4), 104);
        c.due("has(11), one ACT each", c.x.has(11), 4);
        c.station(SONGS + Check.many("asker a", " wants p dies 0 minds 99;", 2) + "fades minds;");
        c.due("days(100), two on each DAY", c.x.days(100), 200);
    }

    private static void chanceRefused() {
        String title = "promise 27: n DAYS by the seed (1 .. 100), one ACT; NONE, refused (3), when it can't be, or without a station";
        for (int n : others(101)) {
            Check c = prepared(title);
            refused(c, 3, "chance(" + n + ")", x -> x.chance(n), NONE);
            seedIsOne(c);
        }
        refused(prepared(title), 3, "chance(0)", x -> x.chance(0), NONE);
        Check none = new Check(title);
        refused(none, 3, "chance(1), no station", x -> x.chance(1), NONE);
        seedIsOne(none);
        Check c = prepared("promise 27: how many deaths");
        c.due("chance(100)", c.x.chance(100), 1);
        c.due("has(4)", c.x.has(4), 103);
        c.due("has(11), one ACT", c.x.has(11), 3);
        c.due("undo(), of all 100", c.x.undo(), true);
        c.due("has(4)", c.x.has(4), 3);
        c.due("asker(1, 1)", c.x.asker(1, 1), 50);
    }

    /** No DRAW was made: by the seed 1 the first one is 18. */
    private static void seedIsOne(Check c) {
        for (int toll = 18; toll <= 19; toll++) {
            c.station(SONGS + "asker a wants p dies 50 minds 9;toll " + toll + ";");
            c.due("chance(1), toll " + toll, c.x.chance(1), toll - 18);
            c.x.seed(1);
        }
    }

    private static void undoRefused() {
        String title = "promise 28: false, refused (4), when none can be";
        refused(new Check(title), 4, "undo(), no station", x -> bit(x.undo()), 0);
        Check c = new Check(title);
        c.station(TWO);
        refused(c, 4, "undo(), no ACT", x -> bit(x.undo()), 0);
        c.x.mourn(0, 1);
        c.due("undo()", c.x.undo(), true);
        refused(c, 4, "undo(), no more", x -> bit(x.undo()), 0);
        // what was refused, asked, seen or seeded is no ACT
        c.x.mourn(0, 100);
        c.x.days(0);
        c.x.seed(5);
        c.asks("often all", 2);
        c.sees(1, 0, 0, 1);
        c.x.image();
        refused(c, 4, "undo(), no ACT among these", x -> bit(x.undo()), 0);
    }

    private static void seedRefused() {
        String title = "promise 29: false, refused (5), when it is below 0. (It is 1 at first.)";
        for (int seed : new int[] {-1, -2, MIN, MIN + 1}) {
            Check c = prepared(title);
            refused(c, 5, "seed(" + seed + ")", x -> bit(x.seed(seed)), 0);
            seedIsOne(c);
        }
        Check c = new Check(title);
        for (int seed : new int[] {0, 1, 2, MAX - 1, MAX}) {
            c.due("seed(" + seed + ")", c.x.seed(seed), true);
        }
        c.due("status(5)", c.x.status(5), 0);
    }

    // ---- 30

    private static void askWithoutStation() {
        Check c = new Check("promise 30: NOTHING, doing nothing else, without a station");
        c.tape("hour 0;");
        c.x.station();
        for (String text : new String[] {"", "often all", "x", "total ((((((("}) {
            c.tape(text);
            c.due("ask() of \"" + text + "\"", c.x.ask(), NOTHING);
            c.due("fault(0), as it was", c.x.fault(0), 2);
            c.due("fault(1), as it was", c.x.fault(1), 5);
        }
        for (int k = 0; k < 6; k++) {
            c.due("status(" + k + ")", c.x.status(k), k == 1 ? 1 : 0);
        }
    }

    private static void askWithFault() {
        Check c = prepared("promise 30: NONE of first, last, when its TEST holds for none; NOTHING with a FAULT");
        String before = c.all();
        c.asks("first not all", NONE);
        c.asks("last not all", NONE);
        c.asks("first all", 0);
        c.asks("last all", 1);
        c.asksFaulty(1, "^");
        c.asksFaulty(1, "first ^");
        c.asksFaulty(4, "total ((((((^(");
        c.asks("least 0-1", -1);
        c.stays("ask()", before);
        c.due("status(1)", c.x.status(1), 0);
        // a question as long as the tape
        String text = "total " + "1+".repeat(796) + "0";
        c.asks(text + " ".repeat(1600 - text.length()), 2 * 796);
        String deep = "often ";
        for (int i = 0; i < 6; i++) {
            deep += "all and 1+2*3>0 or 1+2*3=min(1,7+0*1)or[";
        }
        c.asks(deep + "1>2]]]]]]", 2);
    }

    // ---- 31 to 34

    private static void octets(Check c, int... bytes) {
        c.due("image()", c.x.image(), bytes.length + 1);
        int check = 151;
        for (int k = 0; k < bytes.length; k++) {
            c.due("octet(" + k + ")", c.x.octet(k), bytes[k]);
            check = (3 * check + bytes[k]) % 251;
        }
        c.due("octet(" + bytes.length + ")", c.x.octet(bytes.length), check);
        for (int k : others(bytes.length + 1)) {
            c.due("octet(" + k + ")", c.x.octet(k), NONE);
        }
    }

    private static void imageBytes() {
        Check c = new Check("promise 31: AN IMAGE: two bytes each, the higher first; 0: never; all ahead from 151 on, c = (3 c + it) mod 251");
        octets(c, 0, 0, 0, 0);
        c.due("octet(4), by hand", c.x.octet(4), 183);
        c.station("hour 9;hush 255;");
        octets(c, 0, 0, 0, 255);
        c.station("hour 9;hush 256;");
        octets(c, 0, 0, 1, 0);
        // 151: 453 is 202, 606 is 104, 312 is 61 and 1 is 62, 186
        c.due("octet(4), by hand", c.x.octet(4), 186);
        c.station("hour 9;hush 999;");
        octets(c, 0, 0, 3, 231);
        c.station(SONGS + "asker a wants q dies 99 minds 99;");
        octets(c, 0, 0, 0, 0, 1, 0, 99, 99, 0, 0, 0, 0);
        c.x.days(100);
        octets(c, 0, 100, 0, 0, 1, 0, 99, 98, 0, 100, 0, 1);
        c.station(SONGS + "asker a wants p dies 0 minds 9;");
        c.x.days(1);
        // played on DAY 0: that is told by 1
        octets(c, 0, 1, 0, 0, 0, 0, 0, 8, 0, 1, 0, 1);
        c.station("hour 9;" + Check.many("song s", " long 1 style 1;", 6) + Check.many("asker a", " wants sf dies 1 minds 2;", 8));
        int[] eight = new int[68];
        for (int a = 0; a < 8; a++) {
            eight[4 + 8 * a] = 5;
            eight[6 + 8 * a] = 1;
            eight[7 + 8 * a] = 2;
        }
        octets(c, eight);
    }

    private static void octetOfOthers() {
        Check c = new Check("promise 32: Byte k of the latest image(); NONE when there is none such");
        for (int k : others(0)) {
            c.due("octet(" + k + "), no image yet", c.x.octet(k), NONE);
        }
        c.station(SONGS + "asker a wants p dies 0 minds 9;");
        c.due("octet(0), no image yet", c.x.octet(0), NONE);
        octets(c, 0, 0, 0, 0, 0, 0, 0, 9, 0, 0, 0, 0);
        c.x.days(1);
        c.due("octet(1), the latest image()", c.x.octet(1), 0);
        c.due("octet(7), the latest image()", c.x.octet(7), 9);
        octets(c, 0, 1, 0, 0, 0, 0, 0, 8, 0, 1, 0, 1);
        c.station("hour 9;");
        octets(c, 0, 0, 0, 0);
    }

    /** An image of the prepared station, in two bytes each where it has two. */
    private static int[] good() {
        return new int[] {0, 200, 0, 77, 1, 0, 3, 50, 0, 201, 0, 7, 0, 3, 231, 99, 0, 0, 3, 231};
    }

    private static void refuses(int at, int high, int low) {
        Check c = prepared("promise 33: false, refused (5), when it is none, all staying");
        int[] bytes = good();
        bytes[at] = high;
        if (low >= 0) {
            bytes[at + 1] = low;
        }
        String before = c.all();
        c.turnsOn(false, bytes);
        c.stays("on()", before);
        c.due("status(5)", c.x.status(5), 1);
        c.due("the tape goes", c.x.end(1), false);
    }

    private static void onRefused() {
        // DAY, SILENCE, the DAY on which one dies, how often: 1000 and more; minds 100 and more; SONG 2 and more; played last later than DAY 200
        for (int at : new int[] {0, 2, 5, 13, 10, 18}) {
            refuses(at, 3, 232);
            refuses(at, 4, 0);
            refuses(at, 255, 255);
        }
        for (int at : new int[] {7, 15}) {
            refuses(at, 100, -1);
            refuses(at, 255, -1);
        }
        for (int at : new int[] {4, 12}) {
            refuses(at, 2, -1);
            refuses(at, 255, -1);
        }
        for (int at : new int[] {8, 16}) {
            refuses(at, 0, 202);
            refuses(at, 1, 0);
            refuses(at, 3, 232);
        }
        // played last on DAY 200 is later than DAY 199
        refuses(0, 0, 199);
        int[] bytes = good();
        for (int length : new int[] {0, 4, 12, 19}) {
            prepared("promise 33: one too short").turnsOn(false, java.util.Arrays.copyOf(bytes, length));
        }
        for (int length : new int[] {21, 28, 100}) {
            prepared("promise 33: one too long").turnsOn(false, java.util.Arrays.copyOf(bytes, length));
        }
        onWithWrongLastByte();
        Check c = new Check("promise 33: false, refused (5), without a station");
        c.turnsOn(false, 0, 0, 0, 0);
        c.due("status(5)", c.x.status(5), 1);
        c.due("the tape goes", c.x.end(1), false);
    }

    private static void onWithWrongLastByte() {
        int check = 151;
        int[] bytes = java.util.Arrays.copyOf(good(), 21);
        for (int k = 0; k < 20; k++) {
            check = (3 * check + bytes[k]) % 251;
        }
        for (int last : new int[] {check, (check + 1) % 256, (check + 255) % 256, (check + 251) % 256, 255}) {
            Check c = prepared("promise 33: the last byte");
            bytes[20] = last;
            c.bytes(bytes);
            c.due("on(), " + last + " where " + check + " is due", c.x.on(), last == check);
        }
        Check c = prepared("promise 33: no bytes, no last byte");
        c.bytes();
        refused(c, 5, "on() of nothing", x -> bit(x.on()), 0);
        c.bytes(bytes[0]);
        refused(c, 5, "on() of one byte", x -> bit(x.on()), 0);
    }

    private static void onAtBounds() {
        Check c = prepared("promise 33: DAY, SILENCE, the DAY on which one dies, how often 999, minds 99 at most; played last no later than the DAY");
        // played last on DAY 999, which is 1000 and so 3, 232
        int[] most = {3, 231, 3, 231, 1, 3, 231, 99, 3, 232, 3, 231, 0, 0, 0, 0, 0, 0, 0, 0};
        c.turnsOn(true, most);
        int[][] due = {{1, 999, 99, 999, 0, 1}, {0, 0, 0, 0, 99, 0}};
        for (int asker = 0; asker < 2; asker++) {
            for (int what = 0; what < 6; what++) {
                c.due("asker(" + asker + ", " + what + ")", c.x.asker(asker, what), due[asker][what]);
            }
        }
        c.due("has(4)", c.x.has(4), 999);
        c.due("has(5)", c.x.has(5), 999);
        c.due("has(6)", c.x.has(6), 2);
        octets(c, most);
        int[] least = new int[20];
        c.turnsOn(true, least);
        c.due("has(4)", c.x.has(4), 0);
        c.due("has(5)", c.x.has(5), 0);
        octets(c, least);
        int[] played = new int[20];
        played[9] = 1;
        c.turnsOn(true, played);
        c.due("asker(0, 4), played today", c.x.asker(0, 4), 0);
        played[9] = 2;
        c.turnsOn(false, played);
        // how often and played last need not belong together
        played[9] = 0;
        played[11] = 5;
        c.turnsOn(true, played);
        c.due("asker(0, 3)", c.x.asker(0, 3), 5);
        c.due("asker(0, 4), never", c.x.asker(0, 4), 99);
        c.station("hour 9;" + Check.many("song s", " long 1 style 1;", 6) + Check.many("asker a", " wants sa dies 1 minds 2;", 8));
        int[] eight = new int[68];
        for (int a = 0; a < 8; a++) {
            eight[4 + 8 * a] = 5;
            eight[7 + 8 * a] = 99 - a;
        }
        c.turnsOn(true, eight);
        octets(c, eight);
        c.due("asker(7, 2)", c.x.asker(7, 2), 92);
        eight[60] = 6;
        c.turnsOn(false, eight);
    }

    private static void onForgets() {
        Check c = prepared("promise 33: true, all is as it tells, nothing is KEPT or can be undone");
        c.turnsOn(true, good());
        c.due("has(4)", c.x.has(4), 200);
        c.due("has(5)", c.x.has(5), 77);
        c.due("has(9)", c.x.has(9), 0);
        c.due("kept(0, 0)", c.x.kept(0, 0), NONE);
        c.due("has(10), it is not told that nothing is SEEN", c.x.has(10), 1);
        c.due("has(11)", c.x.has(11), 0);
        refused(c, 4, "undo()", x -> bit(x.undo()), 0);
        c.due("the tape goes", c.x.end(1), false);
        c.due("days(1)", c.x.days(1), 1);
        c.due("kept(0, 0), from here on", c.x.kept(0, 0), 200);
        c.due("undo()", c.x.undo(), true);
        c.due("has(4)", c.x.has(4), 200);
        c.due("has(9)", c.x.has(9), 0);
    }

    private static void statusOfOthers() {
        Check c = prepared("promise 34: NONE for others");
        for (int what = 0; what < 6; what++) {
            c.due("status(" + what + ")", c.x.status(what), 0);
        }
        for (int what : others(6)) {
            c.due("status(" + what + ")", c.x.status(what), NONE);
        }
        // what is NONE without being refused is not counted
        c.x.fault(9);
        c.x.has(99);
        c.x.letter(9, 9, 9);
        c.x.song(9, 9);
        c.x.asker(9, 9);
        c.x.worth(9);
        c.x.best(9);
        c.x.kept(99, 9);
        c.x.later(99);
        c.x.minded(9, 99);
        c.x.fame(9, 99, 9);
        c.x.heard(9);
        c.x.fits(9, 9);
        c.x.tells(9, 9);
        c.x.octet(999);
        c.x.status(99);
        c.asksFaulty(1, "^x");
        c.due("status(0), the tape's end alone", c.x.status(0), 1);
        for (int what = 1; what < 6; what++) {
            c.due("status(" + what + ")", c.x.status(what), 0);
        }
    }
}
