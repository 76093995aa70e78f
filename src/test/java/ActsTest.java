/** Promises 19 to 33: shares, ears, what is seen, acts, questions, images. */
public final class ActsTest {
    private static final int NONE = GraveRequest.NONE;
    private static final String SONGS = "hour 10;song p long 2 style 0;song q long 3 style 5;song r long 4 style 9;";

    public static void main(String[] args) {
        shared();
        heard();
        heardOfLikeOnes();
        see();
        fits();
        tells();
        want();
        mourn();
        days();
        chance();
        lastDay();
        undo();
        seed();
        ask();
        askParts();
        askFaults();
        image();
        on();
        Check.end("ActsTest");
    }

    private static void shared() {
        Check c = new Check("promise 19");
        c.due("shared(), no station", c.x.shared(), 0);
        c.station("hour 10;");
        c.due("shared(), no asker", c.x.shared(), 0);
        c.station(SONGS + "asker a wants p dies 0 minds 9;");
        c.due("shared(), one", c.x.shared(), 0);
        c.station(SONGS + "asker a wants p dies 0 minds 9;asker b wants p dies 0 minds 4;asker d wants p dies 0 minds 6;");
        c.due("shared(), 9 and 10", c.x.shared(), 1);
        // too long for the hour together, one not dead, one forgotten: 5, 3, 4, 6 by askers 1, 3, 4, 5
        c.station(SONGS + "asker a wants r dies 1 minds 9;asker b wants r dies 0 minds 5;asker d wants r dies 0 minds 0;asker e wants r dies 0 minds 3;"
                + "asker f wants r dies 0 minds 4;asker g wants r dies 0 minds 6;");
        c.due("shared(), 9 and 9", c.x.shared(), 2 + 16);
        // worth 5, 5, -3: 5 and 2, the first the least bits
        c.station(SONGS + "asker a wants p dies 0 minds 8;asker b wants p dies 0 minds 8;asker d wants q dies 0 minds 5;worth minds-3-5*(style/5);");
        c.due("worth(2)", c.x.worth(2), -3);
        c.due("shared(), below 0", c.x.shared(), 1);
    }

    private static void heard() {
        Check c = new Check("promise 20");
        c.due("heard(NONE), no station", c.x.heard(NONE), 0);
        c.due("heard(0), no station", c.x.heard(0), NONE);
        c.station(SONGS + "asker a wants p dies 0 minds 9;asker b wants q dies 0 minds 9;asker d wants r dies 0 minds 9;");
        c.due("heard(NONE), no ear", c.x.heard(NONE), 0);
        c.due("heard(0), no ear", c.x.heard(0), NONE);
        // styles 0, 5, 9; the ear of 4 would like q, that of 5 more: p to 4 (5), q to 5 (9), or q to 4 (8), r to 5 (5), or q to 4, p to 5 (4)
        c.station(SONGS + "asker a wants p dies 0 minds 9;asker b wants q dies 0 minds 9;asker d wants r dies 0 minds 9;ear x taste 4;ear y taste 5;");
        c.due("heard(NONE)", c.x.heard(NONE), 14);
        c.due("heard(0)", c.x.heard(0), 0);
        c.due("heard(1)", c.x.heard(1), 1);
        c.due("heard(2)", c.x.heard(2), NONE);
        c.due("heard(-2)", c.x.heard(-2), NONE);
        // only what is on the best programme is heard; more ears than requests
        c.station(SONGS + "asker a wants p dies 1 minds 9;asker b wants r dies 0 minds 9;ear x taste 0;ear y taste 2;ear z taste 8;");
        c.due("heard(NONE), one request", c.x.heard(NONE), 8);
        c.due("heard(0), one request", c.x.heard(0), NONE);
        c.due("heard(1), one request", c.x.heard(1), NONE);
        c.due("heard(2), one request", c.x.heard(2), 1);
    }

    private static void heardOfLikeOnes() {
        Check c = new Check("like rows");
        c.station(SONGS + "asker a wants q dies 0 minds 9;asker b wants q dies 0 minds 9;ear x taste 5;ear y taste 5;ear z taste 5;");
        c.due("heard(NONE)", c.x.heard(NONE), 18);
        c.due("heard(0), none ahead", c.x.heard(0), NONE);
        c.due("heard(1), then the first", c.x.heard(1), 0);
        c.due("heard(2), then the second", c.x.heard(2), 1);
        c.station(SONGS + "asker a wants p dies 0 minds 9;ear x taste 9;");
        c.due("heard(NONE), pleased by 0", c.x.heard(NONE), 0);
        c.due("heard(0), pleased by 0", c.x.heard(0), NONE);
    }

    private static void see() {
        Check c = new Check("promise 21");
        c.sees(NONE, 0, 0, 0);
        c.due("the tape is gone", c.x.end(1), false);
        c.station(SONGS + "asker a wants q dies 0 minds 9;asker b wants q dies 0 minds 9;");
        c.sees(1, 30, 1, 1);
        c.due("has(10)", c.x.has(10), 1);
        c.due("the tape is gone", c.x.end(1), false);
        c.sees(2, 0, 0, 0, 0, 0, 1);
        c.due("has(10)", c.x.has(10), 2);
        c.sees(NONE);
        c.sees(NONE, 0);
        c.sees(NONE, 0, 0);
        c.sees(NONE, 0, 0, 0, 0);
        c.sees(NONE, 31, 0, 0);
        c.sees(NONE, 0, 2, 0);
        c.sees(NONE, 0, 0, 2);
        c.sees(NONE, 0, 0, 0, 255, 0, 0);
        c.due("the tape is gone", c.x.end(1), false);
        c.due("has(10), all stays", c.x.has(10), 2);
        c.due("status(1)", c.x.status(1), 9);
        c.sees(16, new int[48]);
        c.sees(NONE, new int[51]);
        c.due("has(10), all stays", c.x.has(10), 16);
    }

    private static final String RIVALS = "hour 5;song s long 5 style 0;asker a wants s dies 0 minds 50;asker b wants s dies 0 minds 7;asker d wants s dies 20 minds 90;";

    private static void fits() {
        Check c = new Check("promise 22");
        c.station(RIVALS);
        c.due("fits(1, 0), nothing seen", c.x.fits(1, 0), 100);
        c.due("fits(1, 1), nothing seen", c.x.fits(1, 1), 0);
        c.due("fits(1, 2), nothing seen", c.x.fits(1, 2), 99);
        c.due("fits(1, 3)", c.x.fits(1, 3), NONE);
        c.due("fits(1, -1)", c.x.fits(1, -1), NONE);
        c.due("fits(3, 0)", c.x.fits(3, 0), NONE);
        c.due("fits(-1, 0)", c.x.fits(-1, 0), NONE);
        c.sees(1, 0, 1, 1);
        // a is the first of like ones
        c.due("fits(1, 0), b is played", c.x.fits(1, 0), 49);
        c.due("fits(1, 1), b is played", c.x.fits(1, 1), 51);
        c.due("fits(1, 2), b is played", c.x.fits(1, 2), 99);
        c.due("fits(0, 0), b is played", c.x.fits(0, 0), 7);
        c.due("fits(0, 1), b is played", c.x.fits(0, 1), 0);
        c.due("fits(0, 2), b is played", c.x.fits(0, 2), 6);
        c.due("fits(2, 0), b is never played by what d is", c.x.fits(2, 0), 0);
        c.due("fits(2, 1), none", c.x.fits(2, 1), NONE);
        c.due("fits(2, 2), none", c.x.fits(2, 2), NONE);
        c.due("asker(1, 2), nothing has passed", c.x.asker(1, 2), 7);
        // a on day 0, d on day 20 with at least 31 against 30; not d on day 30 with at most 20
        c.sees(2, 0, 0, 1, 20, 2, 1);
        c.due("fits(2, 0), d beats a on day 20", c.x.fits(2, 0), 69);
        c.due("fits(2, 1), d beats a on day 20", c.x.fits(2, 1), 31);
        c.sees(2, 0, 0, 0, 1, 1, 1);
        c.due("fits(1, 0), b on day 1, not a on day 0", c.x.fits(1, 0), 49);
        c.station("hour 5;song s long 5 style 0;asker a wants s dies 0 minds 5;fades minds+1;");
        c.sees(1, 0, 0, 0);
        c.due("fits(0, 0), forgotten alone", c.x.fits(0, 0), 1);
        c.due("fits(0, 1), forgotten alone", c.x.fits(0, 1), 0);
        c.due("fits(0, 2), forgotten alone", c.x.fits(0, 2), 0);
        c.sees(1, 1, 0, 1);
        c.due("fits(0, 1), minded by 1 tomorrow", c.x.fits(0, 1), 0);
        c.due("tells(0, 0), played or not today", c.x.tells(0, 0), 0);
        c.due("tells(0, 1), played or not today", c.x.tells(0, 1), 99);
        c.station(RIVALS);
        c.sees(2, 0, 0, 1, 0, 0, 0);
        c.due("fits(0, 0), against itself", c.x.fits(0, 0), 0);
        c.sees(1, 5, 0, 1);
        // 993 + 5 is DAY 998, 995 + 5 is beyond
        c.turnsOn(true, 3, 225, 0, 0, 0, 0, 0, 50, 0, 0, 0, 0, 0, 0, 0, 7, 0, 0, 0, 0, 0, 3, 231, 9, 0, 0, 0, 0);
        c.due("has(10), seen stays", c.x.has(10), 1);
        c.due("fits(0, 0), up to DAY 998", c.x.fits(0, 0), 93);
        c.turnsOn(true, 3, 226, 0, 0, 0, 0, 0, 50, 0, 0, 0, 0, 0, 0, 0, 7, 0, 0, 0, 0, 0, 3, 231, 1, 0, 0, 0, 0);
        c.due("fits(0, 0), up to DAY 999", c.x.fits(0, 0), 93);
        c.turnsOn(true, 3, 227, 0, 0, 0, 0, 0, 50, 0, 0, 0, 0, 0, 0, 0, 7, 0, 0, 0, 0, 0, 3, 231, 9, 0, 0, 0, 0);
        c.due("fits(0, 0), beyond DAY 999", c.x.fits(0, 0), 0);
        c.due("tells(0, 0), beyond DAY 999", c.x.tells(0, 0), NONE);
    }

    private static void tells() {
        Check c = new Check("promise 23");
        c.due("tells(0, 0), no station", c.x.tells(0, 0), NONE);
        c.station("hour 5;song s long 5 style 0;asker a wants s dies 0 minds 5;");
        // on day d he is played if minded above d: 99 - d of 100; the most left, max(99 - d, d + 1), falls to day 30
        c.due("tells(0, 0), nothing seen", c.x.tells(0, 0), 30);
        c.due("tells(0, 1), nothing seen", c.x.tells(0, 1), 69);
        c.due("tells(0, 2)", c.x.tells(0, 2), NONE);
        c.due("tells(0, -1)", c.x.tells(0, -1), NONE);
        c.due("tells(1, 0)", c.x.tells(1, 0), NONE);
        c.due("tells(-1, 0)", c.x.tells(-1, 0), NONE);
        // 3 .. 12 are left; behind day 7 it is 5 and 5
        c.sees(2, 2, 0, 1, 12, 0, 0);
        c.due("fits(0, 0)", c.x.fits(0, 0), 10);
        c.due("tells(0, 0), ten left", c.x.tells(0, 0), 7);
        c.due("tells(0, 1), ten left", c.x.tells(0, 1), 5);
        // 3 .. 11: days 6 and 7 leave 5 at most
        c.sees(2, 2, 0, 1, 11, 0, 0);
        c.due("tells(0, 0), nine left, the first", c.x.tells(0, 0), 6);
        c.due("tells(0, 1), nine left", c.x.tells(0, 1), 5);
        c.sees(2, 2, 0, 1, 3, 0, 0);
        c.due("tells(0, 0), one left", c.x.tells(0, 0), 0);
        c.due("tells(0, 1), one left", c.x.tells(0, 1), 1);
        c.sees(2, 2, 0, 0, 3, 0, 1);
        c.due("tells(0, 0), none left", c.x.tells(0, 0), NONE);
        c.due("tells(0, 1), none left", c.x.tells(0, 1), NONE);
        c.station("hour 5;song s long 5 style 0;asker a wants s dies 0 minds 5;");
        c.turnsOn(true, 3, 221, 0, 0, 0, 0, 0, 50, 0, 0, 0, 0);
        c.due("tells(0, 0), DAY 989", c.x.tells(0, 0), 10);
        c.due("tells(0, 1), DAY 989", c.x.tells(0, 1), 89);
    }

    private static void want() {
        Check c = new Check("promise 24");
        c.due("want(0, 0), no station", c.x.want(0, 0), false);
        c.station(SONGS + "asker a wants q dies 5 minds 9;");
        c.due("want(0, 1), his own", c.x.want(0, 1), false);
        c.due("want(0, 3)", c.x.want(0, 3), false);
        c.due("want(0, -1)", c.x.want(0, -1), false);
        c.due("want(1, 0)", c.x.want(1, 0), false);
        c.due("want(-1, 0)", c.x.want(-1, 0), false);
        c.due("status(2)", c.x.status(2), 6);
        c.due("has(11)", c.x.has(11), 0);
        c.due("want(0, 2)", c.x.want(0, 2), true);
        c.due("asker(0, 0)", c.x.asker(0, 0), 2);
        c.due("has(11)", c.x.has(11), 1);
        c.due("want(0, 2)", c.x.want(0, 2), false);
        c.due("want(0, 0)", c.x.want(0, 0), true);
        c.asks("total long", 2);
    }

    private static void mourn() {
        Check c = new Check("promise 25");
        c.due("mourn(0, 1), no station", c.x.mourn(0, 1), NONE);
        c.station(SONGS + "asker a wants q dies 5 minds 0;asker b wants q dies 0 minds 90;");
        c.due("mourn(0, 0)", c.x.mourn(0, 0), NONE);
        c.due("mourn(0, 100)", c.x.mourn(0, 100), NONE);
        c.due("mourn(0, -1)", c.x.mourn(0, -1), NONE);
        c.due("mourn(2, 1)", c.x.mourn(2, 1), NONE);
        c.due("mourn(-1, 1)", c.x.mourn(-1, 1), NONE);
        c.due("status(2)", c.x.status(2), 6);
        c.due("has(11)", c.x.has(11), 0);
        c.due("mourn(0, 1)", c.x.mourn(0, 1), 1);
        c.due("mourn(1, 9)", c.x.mourn(1, 9), 99);
        c.due("mourn(1, 1), at 99", c.x.mourn(1, 1), NONE);
        c.due("mourn(0, 99), 99 at most", c.x.mourn(0, 99), 99);
        c.due("asker(0, 2)", c.x.asker(0, 2), 99);
        c.due("has(11)", c.x.has(11), 3);
        c.due("status(2)", c.x.status(2), 7);
    }

    private static void days() {
        Check c = new Check("promise 26");
        c.due("days(1), no station", c.x.days(1), NONE);
        c.station(SONGS + "asker a wants p dies 0 minds 3;asker b wants q dies 1 minds 2;toll 100;hush 999;");
        c.due("days(0)", c.x.days(0), NONE);
        c.due("days(101)", c.x.days(101), NONE);
        c.due("days(-1)", c.x.days(-1), NONE);
        c.due("status(3)", c.x.status(3), 4);
        c.due("has(11)", c.x.has(11), 0);
        // a on 0, 1, 2, b on 1, 2
        c.due("days(100)", c.x.days(100), 5);
        c.due("has(4)", c.x.has(4), 100);
        // 10 minutes an hour, 8, 5, 5 of the first three: 985 of 999
        c.due("has(5)", c.x.has(5), 11);
        c.due("has(11)", c.x.has(11), 1);
        c.due("asker(0, 3)", c.x.asker(0, 3), 3);
        c.due("asker(1, 3)", c.x.asker(1, 3), 2);
        c.due("asker(1, 1), no deaths drawn", c.x.asker(1, 1), 1);
        c.due("days(1)", c.x.days(1), 0);
        c.due("has(4)", c.x.has(4), 101);
    }

    /** Promises 26 and 27: no DAY comes behind 999, and what is refused changes nothing. */
    private static void lastDay() {
        Check c = new Check("the last DAY");
        c.station(SONGS + "asker a wants p dies 0 minds 9;asker b wants p dies 90 minds 9;fades minds;toll 100;");
        int[] asker = {0, 0, 0, 9, 0, 0, 0, 0};
        // b dies on DAY 999: by the seed he can die earlier
        int[] other = {0, 3, 231, 9, 0, 0, 0, 0};
        c.turnsOn(true, join(new int[] {3, 131, 0, 5}, asker, other));
        c.due("days(101), DAY 899", c.x.days(101), NONE);
        c.due("days(100), DAY 899", c.x.days(100), 100);
        c.due("has(4)", c.x.has(4), 999);
        c.due("undo()", c.x.undo(), true);
        c.due("days(1), DAY 899", c.x.days(1), 1);
        c.due("days(100), DAY 900", c.x.days(100), NONE);
        c.due("chance(100), DAY 900", c.x.chance(100), NONE);
        c.due("has(4), refused", c.x.has(4), 900);
        c.due("status(3)", c.x.status(3), 3);
        c.turnsOn(true, join(new int[] {3, 230, 0, 5}, asker, other));
        c.due("days(2), DAY 998", c.x.days(2), NONE);
        c.due("chance(2), DAY 998", c.x.chance(2), NONE);
        c.due("has(4), refused", c.x.has(4), 998);
        c.due("has(6), refused", c.x.has(6), 1);
        c.due("has(9), refused", c.x.has(9), 0);
        c.due("has(11), refused", c.x.has(11), 0);
        c.due("chance(1), DAY 998", c.x.chance(1), 1);
        c.due("asker(1, 1)", c.x.asker(1, 1), 998);
        c.due("has(4)", c.x.has(4), 999);
        c.due("days(1), DAY 999", c.x.days(1), NONE);
        c.due("chance(1), DAY 999", c.x.chance(1), NONE);
        c.due("days(" + Integer.MAX_VALUE + ")", c.x.days(Integer.MAX_VALUE), NONE);
        c.due("chance(" + Integer.MAX_VALUE + ")", c.x.chance(Integer.MAX_VALUE), NONE);
        c.due("asker(0, 3), refused", c.x.asker(0, 3), 1);
        c.due("has(9), refused", c.x.has(9), 1);
        c.due("has(11), refused", c.x.has(11), 1);
        c.due("status(3)", c.x.status(3), 9);
        c.due("undo()", c.x.undo(), true);
        c.due("days(1), DAY 998 anew", c.x.days(1), 1);
        seedOnLastDay();
    }

    private static void seedOnLastDay() {
        Check c = new Check("the seed on the last DAY");
        c.station(SONGS + "toll 100;");
        c.turnsOn(true, 3, 231, 0, 0);
        c.due("chance(1), DAY 999", c.x.chance(1), NONE);
        c.station(SONGS + "asker a wants p dies 90 minds 9;toll 19;");
        // by the seed 1 the first draw is 18, below 19, and the second 99
        c.due("chance(1), the first draw", c.x.chance(1), 1);
    }

    private static int[] join(int[]... rows) {
        return java.util.Arrays.stream(rows).flatMapToInt(java.util.Arrays::stream).toArray();
    }

    private static void chance() {
        Check c = new Check("promise 27");
        c.due("chance(1), no station", c.x.chance(1), NONE);
        String three = "asker a wants p dies 90 minds 9;asker b wants p dies 90 minds 9;asker d wants p dies 90 minds 9;";
        c.station(SONGS + three + "toll 100;");
        c.due("chance(0)", c.x.chance(0), NONE);
        c.due("chance(101)", c.x.chance(101), NONE);
        c.due("chance(-1)", c.x.chance(-1), NONE);
        c.due("status(3)", c.x.status(3), 4);
        // seed 1: 1103527590, 17242618 mod 100 = 18; then 377401575, 5896899 mod 3 = 0: a dies on day 0
        c.due("chance(1)", c.x.chance(1), 1);
        c.due("asker(0, 1)", c.x.asker(0, 1), 0);
        c.due("asker(0, 3), played at once", c.x.asker(0, 3), 1);
        c.due("asker(1, 1)", c.x.asker(1, 1), 90);
        c.due("chance(2)", c.x.chance(2), 2);
        c.due("has(6)", c.x.has(6), 3);
        c.due("has(11), one ACT each", c.x.has(11), 2);
        c.due("has(9)", c.x.has(9), 3);
        c.due("chance(3), none left to die", c.x.chance(3), 0);
        c.station(SONGS + three);
        c.due("chance(100), no toll", c.x.chance(100), 0);
        c.due("has(4), no toll", c.x.has(4), 100);
        c.station(SONGS + three);
        c.due("chance(50), no toll", c.x.chance(50), 0);
        c.due("has(6), no toll", c.x.has(6), 0);
        // 42: 1250496027, 19539000 mod 100 = 0, below 1 but not below 0
        c.x.seed(42);
        c.due("chance(1), no toll", c.x.chance(1), 0);
        c.x.seed(42);
        c.station(SONGS + three + "toll 1;");
        c.due("chance(1), toll 1", c.x.chance(1), 1);
        // below toll alone: 18 is not below 18
        c.x.seed(1);
        c.station(SONGS + three + "toll 18;");
        c.due("chance(1), toll 18", c.x.chance(1), 0);
        c.x.seed(1);
        c.station(SONGS + three + "toll 19;");
        c.due("chance(1), toll 19", c.x.chance(1), 1);
        // without one who could die there is but one draw a day
        c.x.seed(1);
        c.station("hour 5;toll 100;");
        c.due("chance(1), nobody", c.x.chance(1), 0);
        c.station(SONGS + three + "toll 100;");
        // 377401575, 5896899 mod 100 = 99, below 100; then 662824084, 10356626 mod 3 = 2
        c.due("chance(1), one draw on", c.x.chance(1), 1);
        c.due("asker(0, 1), one draw on", c.x.asker(0, 1), 90);
        c.due("asker(2, 1), one draw on", c.x.asker(2, 1), 0);
    }

    private static void undo() {
        Check c = new Check("promise 28");
        c.due("undo(), no station", c.x.undo(), false);
        c.station(SONGS + "asker a wants p dies 0 minds 9;asker b wants p dies 90 minds 9;toll 100;hush 100;");
        c.due("undo(), no act", c.x.undo(), false);
        c.due("status(4)", c.x.status(4), 2);
        c.x.want(0, 2);
        c.x.mourn(1, 5);
        c.x.days(3);
        c.x.chance(4);
        c.due("has(4)", c.x.has(4), 7);
        c.due("undo() of chance", c.x.undo(), true);
        c.due("has(4)", c.x.has(4), 3);
        c.due("has(9)", c.x.has(9), 3);
        c.due("asker(1, 1)", c.x.asker(1, 1), 90);
        c.due("undo() of days", c.x.undo(), true);
        c.due("has(4)", c.x.has(4), 0);
        c.due("has(5)", c.x.has(5), 100);
        c.due("has(9)", c.x.has(9), 0);
        c.due("asker(0, 2)", c.x.asker(0, 2), 9);
        c.due("asker(0, 3)", c.x.asker(0, 3), 0);
        c.due("asker(0, 4)", c.x.asker(0, 4), 99);
        c.due("undo() of mourn", c.x.undo(), true);
        c.due("asker(1, 2)", c.x.asker(1, 2), 9);
        c.due("asker(0, 0)", c.x.asker(0, 0), 2);
        c.due("undo() of want", c.x.undo(), true);
        c.due("asker(0, 0)", c.x.asker(0, 0), 0);
        c.due("undo(), none left", c.x.undo(), false);
        c.due("has(11)", c.x.has(11), 0);
        for (int i = 0; i < 25; i++) {
            c.x.want(0, 1 + i % 2);
        }
        c.due("has(11), 20 at most", c.x.has(11), 20);
        for (int i = 0; i < 20; i++) {
            c.due("undo()", c.x.undo(), true);
        }
        c.due("undo(), 21st", c.x.undo(), false);
        c.due("asker(0, 0), behind the fifth", c.x.asker(0, 0), 1);
        c.due("status(4)", c.x.status(4), 4);
        undoKeepsTheSeed();
        undoGoesBackOneByOne();
    }

    private static void undoGoesBackOneByOne() {
        Check c = new Check("promise 28, one by one");
        c.station(SONGS + "asker a wants p dies 0 minds 9;");
        for (int i = 1; i <= 30; i++) {
            c.due("mourn(0, 1)", c.x.mourn(0, 1), 9 + i);
        }
        for (int i = 29; i >= 10; i--) {
            c.due("undo()", c.x.undo(), true);
            c.due("asker(0, 2)", c.x.asker(0, 2), 9 + i);
        }
        c.due("undo()", c.x.undo(), false);
    }

    private static void undoKeepsTheSeed() {
        Check c = new Check("promise 28, the seed stays");
        c.station(SONGS + "asker a wants p dies 90 minds 9;toll 19;");
        // 18, below 19: he dies; undone, the seed goes on behind two draws: 662824084, 10356626 mod 100 = 26
        c.due("chance(1)", c.x.chance(1), 1);
        c.due("undo()", c.x.undo(), true);
        c.due("asker(0, 1)", c.x.asker(0, 1), 90);
        c.due("chance(1), other draws", c.x.chance(1), 0);
    }

    private static void seed() {
        Check c = new Check("promise 29");
        // 1 at first: 1103527590, 17242618 mod 100 = 18
        c.station(SONGS + "asker a wants p dies 90 minds 9;toll 18;");
        c.due("chance(1), the first seed, toll 18", c.x.chance(1), 0);
        c.due("seed(-1)", c.x.seed(-1), false);
        c.due("seed(MIN)", c.x.seed(Integer.MIN_VALUE), false);
        c.due("status(5)", c.x.status(5), 2);
        c.due("seed(0)", c.x.seed(0), true);
        // 12345, 192 mod 100 = 92
        c.station(SONGS + "asker a wants p dies 90 minds 9;toll 92;");
        c.due("chance(1), seed 0, toll 92", c.x.chance(1), 0);
        c.x.seed(0);
        c.station(SONGS + "asker a wants p dies 90 minds 9;toll 93;");
        c.due("chance(1), seed 0, toll 93", c.x.chance(1), 1);
        c.due("seed(MAX)", c.x.seed(Integer.MAX_VALUE), true);
        // 12345 - 1103515245 mod 2^31 = 1043980748, 16312199 mod 100 = 99
        c.station(SONGS + "asker a wants p dies 90 minds 9;toll 99;");
        c.due("chance(1), seed MAX, toll 99", c.x.chance(1), 0);
        c.due("has(11), no ACT", c.x.has(11), 1);
    }

    private static void ask() {
        Check c = new Check("promise 30");
        c.tape("total 1");
        c.due("ask(), no station", c.x.ask(), GraveRequest.NOTHING);
        c.due("the tape is gone", c.x.end(1), false);
        c.station("hour 5;");
        c.asks("first all", NONE);
        c.asks("last all", NONE);
        c.asks("often all", 0);
        c.asks("total 7", 0);
        c.asks("most 7", 0);
        c.asks("least 7", 0);
        c.station(SONGS + "asker a wants p dies 0 minds 4;asker b wants q dies 2 minds 8;asker d wants r dies 0 minds 6;asker e wants r dies 0 minds 0;");
        c.due("the tape is gone", c.x.end(1), false);
        c.asks("first minds>4", 1);
        c.asks("last minds>4", 2);
        c.asks("often minds>4", 2);
        c.asks("first minds>8", NONE);
        c.asks("last minds>8", NONE);
        c.asks("often minds>8", 0);
        c.asks("first all", 0);
        c.asks(" last\nall ", 3);
        c.asks("total minds", 18);
        c.asks("most minds", 8);
        c.asks("least minds", 0);
        c.asks("most minds-10", -2);
        c.asks("least 10-minds", 2);
        c.asks("most 0-number", 0);
        c.asks("most 9-number", 9);
        c.asks("least number-9", -9);
        c.asks("least number+1", 1);
        c.asks("often minds<5", 2);
        c.asks("often minds<5 and number<9", 2);
        c.asks("often minds<5 or minds=6", 3);
        c.asks("total 9999*9999", 4000000);
        c.asks("total 0-9999*9999", -4000000);
        c.due("status(1), none refused", c.x.status(1), 0);
        c.due("has(11), no ACT", c.x.has(11), 0);
    }

    private static void askParts() {
        Check c = new Check("QUESTIONS");
        c.station(SONGS + "asker a wants p dies 0 minds 4;asker b wants q dies 3 minds 8;asker d wants r dies 0 minds 6;asker e wants r dies 1 minds 1;");
        c.x.days(2);
        // a and d are played on days 0 and 1, e on day 1
        c.asks("total number", 6);
        c.asks("first number=2", 2);
        c.asks("total minds", 2 + 8 + 4);
        c.asks("total age", 2 + 2 + 1);
        c.asks("total since", 1 + 99 + 1 + 1);
        c.asks("total played", 2 + 2 + 1);
        c.asks("total day", 8);
        c.asks("total long", 2 + 3 + 4 + 4);
        c.asks("total style", 0 + 5 + 9 + 9);
        c.asks("total alive", 1);
        c.asks("first alive=1", 1);
        c.asks("total on", 2);
        c.asks("total on*(1+number)", 1 + 3);
        c.asks("total wants 2", 2);
        c.asks("total wants 2*10+wants 0", 21);
        c.asks("total wants (1+1)", 2);
        c.asks("total wants min(number,9)", 3);
        // whose song is 0 does not want 2, and so wants 0
        c.asks("total wants wants 2", 1);
        c.asks("first wants wants 1=0", 2);
        c.asks("often wants 9=0 and not [on=1 or alive=1]", 1);
        c.asks("most max(minds,style)/2", 4);
        c.asks("total 7/2-9/(0-2)", 4 * 8);
    }

    private static void askFaults() {
        Check c = new Check("FAULTS of questions");
        c.station(SONGS + "asker a wants p dies 0 minds 4;");
        c.asksFaulty(1, "^");
        c.asksFaulty(1, "  ^");
        c.asksFaulty(1, "total^1");
        c.asks("total 1", 1);
        c.asksFaulty(1, "total^");
        c.asksFaulty(1, "^totals 1");
        c.asksFaulty(1, "^hour 1");
        c.asksFaulty(1, "^7");
        c.asksFaulty(1, "total minds^;");
        c.asksFaulty(1, "total minds ^x");
        c.asksFaulty(1, "total ^all");
        c.asksFaulty(1, "total 1^<2");
        c.asksFaulty(1, "often 1^");
        c.asksFaulty(1, "often all ^minds");
        c.asksFaulty(1, "total ^gate");
        c.asksFaulty(1, "total ^p");
        c.asksFaulty(1, "total 1234^5");
        c.asksFaulty(1, "total wants^");
        c.asksFaulty(1, "total wants ^+");
        c.asks("total wants wants wants wants wants wants 1", 1);
        c.asks("total wants(wants(wants(1)))+wants(wants(wants(1)))", 0);
        c.asksFaulty(4, "total wants wants wants wants wants wants ^wants 1");
        c.asksFaulty(4, "total wants(wants(wants(^(1))))");
        c.asksFaulty(4, "total ((((((^(");
        c.asksFaulty(4, "often not[not wants min(1,wants ^(2))=1]");
        c.asksFaulty(4, "often [[[[[[^not all]]]]]]");
        c.asks("first all", 0);
    }

    private static void image() {
        Check c = new Check("promises 31, 32");
        c.due("octet(0), no image", c.x.octet(0), NONE);
        c.station(SONGS + "asker a wants p dies 0 minds 99;asker b wants r dies 99 minds 8;hush 999;");
        c.due("image()", c.x.image(), 21);
        // 999 is 3, 231; the last byte by hand
        octets(c, 0, 0, 3, 231, 0, 0, 0, 99, 0, 0, 0, 0, 2, 0, 99, 8, 0, 0, 0, 0);
        c.x.days(50);
        octets(c, 0, 0, 3, 231, 0, 0, 0, 99, 0, 0, 0, 0, 2, 0, 99, 8, 0, 0, 0, 0);
        c.due("image()", c.x.image(), 21);
        // day 50, 999 - 50 * 8 = 599; a is minded by 49, played last on 49, 50 times
        octets(c, 0, 50, 2, 87, 0, 0, 0, 49, 0, 50, 0, 50, 2, 0, 99, 8, 0, 0, 0, 0);
        c.due("octet(21)", c.x.octet(21), NONE);
        c.due("octet(-1)", c.x.octet(-1), NONE);
        c.station("hour 5;");
        c.due("octet(1), the latest image() stays", c.x.octet(1), 50);
        c.due("image()", c.x.image(), 5);
        octets(c, 0, 0, 0, 0);
        c.due("octet(4)", c.x.octet(4), 183);
        c.due("octet(5)", c.x.octet(5), NONE);
    }

    private static void octets(Check c, int... bytes) {
        int check = 151;
        for (int k = 0; k < bytes.length; k++) {
            c.due("octet(" + k + ")", c.x.octet(k), bytes[k]);
            check = (3 * check + bytes[k]) % 251;
        }
        c.due("octet(" + bytes.length + "), the last", c.x.octet(bytes.length), check);
    }

    private static void onForTwo() {
        Check c = new Check("promise 33, two askers");
        c.station(SONGS + "asker a wants p dies 0 minds 9;asker b wants p dies 0 minds 9;");
        int[] good = {0, 9, 0, 77, 2, 3, 231, 99, 0, 10, 3, 231, 1, 0, 5, 7, 0, 0, 0, 0};
        int[][] wrong = {{12, 3}, {13, 4}, {15, 100}, {16, 1}, {17, 11}, {18, 4}};
        for (int[] change : wrong) {
            int[] bytes = good.clone();
            bytes[change[0]] = change[1];
            c.turnsOn(false, bytes);
        }
        c.turnsOn(true, good);
        long[] asker = {1, 5, 7, 0, 99};
        for (int what = 0; what < asker.length; what++) {
            c.due("asker(1, " + what + ")", c.x.asker(1, what), asker[what]);
        }
    }

    private static void on() {
        Check c = new Check("promise 33");
        c.turnsOn(false, 0, 0, 0, 0);
        c.due("the tape is gone", c.x.end(1), false);
        c.station(SONGS + "asker a wants p dies 0 minds 9;hush 9;");
        c.sees(1, 0, 0, 1);
        c.x.days(2);
        int[] good = {0, 9, 0, 77, 2, 3, 231, 99, 0, 10, 3, 231};
        Object[][] wrong = {{0, 4}, {2, 4}, {4, 3}, {5, 4}, {7, 100}, {9, 11}, {8, 1}, {10, 4}};
        for (Object[] change : wrong) {
            int[] bytes = good.clone();
            bytes[(Integer) change[0]] = (Integer) change[1];
            c.turnsOn(false, bytes);
        }
        c.turnsOn(false, 0, 9, 0, 77);
        c.turnsOn(false, 0, 9, 0, 77, 2, 3, 231, 99, 0, 10, 3, 231, 2, 3, 231, 99, 0, 10, 3, 231);
        c.bytes(0, 9, 0, 77, 2, 3, 231, 99, 0, 10, 3, 231, 0);
        c.due("on(), a wrong last byte", c.x.on(), false);
        c.bytes();
        c.due("on(), nothing", c.x.on(), false);
        c.due("status(5)", c.x.status(5), 13);
        c.due("has(4), all stays", c.x.has(4), 2);
        c.due("has(9), all stays", c.x.has(9), 2);
        c.due("has(11), all stays", c.x.has(11), 1);
        c.due("asker(0, 3), all stays", c.x.asker(0, 3), 2);
        c.turnsOn(true, good);
        long[] asker = {2, 999, 99, 999, 0};
        for (int what = 0; what < asker.length; what++) {
            c.due("asker(0, " + what + ")", c.x.asker(0, what), asker[what]);
        }
        c.due("has(4)", c.x.has(4), 9);
        c.due("has(5)", c.x.has(5), 77);
        c.due("has(9), nothing is kept", c.x.has(9), 0);
        c.due("has(10), seen stays", c.x.has(10), 1);
        c.due("has(11), nothing can be undone", c.x.has(11), 0);
        c.due("undo()", c.x.undo(), false);
        c.turnsOn(true, 3, 231, 3, 231, 0, 0, 0, 0, 0, 0, 0, 5);
        c.due("has(4), 999", c.x.has(4), 999);
        c.due("has(5), 999", c.x.has(5), 999);
        c.due("asker(0, 4), never", c.x.asker(0, 4), 99);
        c.due("asker(0, 3), often all the same", c.x.asker(0, 3), 5);
        c.station("hour 5;hush 3;");
        c.turnsOn(true, 0, 1, 0, 2);
        c.due("has(5), no asker", c.x.has(5), 2);
        onForTwo();
    }
}
