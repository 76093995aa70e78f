/** Promises 9 to 18: askers, programmes, days kept and days ahead. */
public final class DaysTest {
    private static final int NONE = GraveRequest.NONE;

    public static void main(String[] args) {
        asker();
        worth();
        worthBounds();
        best();
        bestOfLikeOnes();
        kept();
        aDay();
        lateDays();
        later();
        minded();
        nothing();
        hushed();
        full();
        fame();
        Check.end("DaysTest");
    }

    private static void asker() {
        Check c = new Check("promise 9");
        c.station("hour 5;song s long 5 style 1;song t long 2 style 1;asker a wants t dies 0 minds 3;asker b wants s dies 7 minds 0;");
        long[] a = {1, 0, 3, 0, 99, 1};
        long[] b = {0, 7, 0, 0, 99, 0};
        for (int what = 0; what < 6; what++) {
            c.due("asker(0, " + what + ")", c.x.asker(0, what), a[what]);
            c.due("asker(1, " + what + ")", c.x.asker(1, what), b[what]);
        }
        c.due("asker(0, 6)", c.x.asker(0, 6), NONE);
        c.due("asker(0, -1)", c.x.asker(0, -1), NONE);
        c.due("asker(2, 0)", c.x.asker(2, 0), NONE);
        c.due("asker(-1, 0)", c.x.asker(-1, 0), NONE);
        c.x.days(2);
        c.due("asker(0, 2) behind two days", c.x.asker(0, 2), 1);
        c.due("asker(0, 3) behind two days", c.x.asker(0, 3), 2);
        c.due("asker(0, 4) behind two days", c.x.asker(0, 4), 1);
        c.x.days(3);
        c.due("asker(0, 3) when forgotten", c.x.asker(0, 3), 3);
        c.due("asker(0, 4) when forgotten", c.x.asker(0, 4), 3);
        c.due("asker(0, 5) when forgotten", c.x.asker(0, 5), 0);
        c.x.days(95);
        c.due("asker(0, 4), 98 days ago", c.x.asker(0, 4), 98);
        c.x.days(1);
        c.due("asker(0, 4), 99 days ago", c.x.asker(0, 4), 99);
        c.x.days(1);
        c.due("asker(0, 4), 100 days ago", c.x.asker(0, 4), 99);
        c.due("asker(1, 5), dead but forgotten", c.x.asker(1, 5), 0);
    }

    private static void worth() {
        Check c = new Check("promise 10");
        c.station("hour 9;song s long 4 style 7;asker a wants s dies 0 minds 6;asker b wants s dies 5 minds 9;"
                + "worth minds+10*age+100*day+1000*played-since+long*style/3;");
        // 6 - 99 + 28 / 3
        c.due("worth(0)", c.x.worth(0), -84);
        c.due("worth(1), not dead", c.x.worth(1), -81);
        c.due("worth(2)", c.x.worth(2), GraveRequest.NOTHING);
        c.due("worth(-1)", c.x.worth(-1), GraveRequest.NOTHING);
        c.x.days(3);
        // below 0 on day 0, then played on days 1 and 2: 3 + 30 + 300 + 2000 - 1 + 9; the other's age is still 0: 9 + 300 - 99 + 9
        c.due("worth(0) on day 3", c.x.worth(0), 2341);
        c.due("worth(1) on day 3", c.x.worth(1), 219);
        c.x.days(3);
        // played on days 1 to 5, forgotten: 60 + 600 + 5000 - 1 + 9
        c.due("worth(0) on day 6", c.x.worth(0), 5668);
        // dead from day 5 on: played then, 8 + 10 + 600 + 1000 - 1 + 9
        c.due("worth(1) on day 6", c.x.worth(1), 1626);
    }

    private static void worthBounds() {
        Check c = new Check("SUMS");
        Object[][] rows = {{"1+2*3", 7}, {"(1+2)*3", 9}, {"9-3-2", 4}, {"48/4/3", 4}, {"2*7/4", 3}, {"7/4*2", 2}, {"5-9", -4},
            {"(0-7)/2", -4}, {"7/(0-2)", -4}, {"(0-7)/(0-2)", 3}, {"(0-8)/2", -4}, {"7/0", 0}, {"(0-7)/0", 0}, {"0/5", 0},
            {"9999*9999", 1000000}, {"0-9999*9999", -1000000}, {"9999*9999+9999*9999", 1000000}, {"0-9999*9999-1", -1000000},
            {"9999*9999+1-1", 999999}, {"(0-9999)*9999", -1000000}, {"1000*1000", 1000000}, {"1000*1000/7", 142857},
            {"min(3,5)", 3}, {"max(3,5)", 5}, {"min(5,3)+max(5,3)*2", 13}, {"min(max(1,4),(0-2))", -2}, {"0009", 9}, {"9999", 9999}};
        for (Object[] row : rows) {
            c.station("hour 9;song s long 4 style 7;asker a wants s dies 0 minds 6;worth " + row[0] + ";");
            c.due("worth " + row[0], c.x.worth(0), ((Integer) row[1]).longValue());
        }
        Object[][] tests = {{"all", 1}, {"not all", 0}, {"1<2", 1}, {"2<1", 0}, {"1<1", 0}, {"2>1", 1}, {"1>1", 0}, {"1=1", 1}, {"1=2", 0},
            {"all or all and not all", 1}, {"[all or all] and not all", 0}, {"not all or all", 1}, {"not [all or all]", 0}, {"not not all", 1},
            {"not 1=2 and 1=2", 0}, {"minds=6 and long=4 and style=7", 1}, {"since=99 and played=0 and day=0 and age=0", 1}};
        for (Object[] row : tests) {
            c.station("hour 9;song s long 4 style 7;asker a wants s dies 0 minds 6;plays " + row[0] + ";");
            c.due("plays " + row[0], c.x.asker(0, 5), ((Integer) row[1]).longValue());
        }
    }

    private static void best() {
        Check c = new Check("promise 11");
        String songs = "hour 10;song p long 4 style 1;song q long 6 style 1;song r long 7 style 1;";
        c.station("hour 10;");
        c.due("best(0), no asker", c.x.best(0), 0);
        c.due("best(1), no asker", c.x.best(1), 0);
        c.due("best(2)", c.x.best(2), NONE);
        c.due("best(-1)", c.x.best(-1), NONE);
        c.station(songs + "asker a wants p dies 0 minds 5;asker b wants q dies 0 minds 5;asker d wants r dies 0 minds 9;");
        c.due("best(0)", c.x.best(0), 3);
        c.due("best(1)", c.x.best(1), 10);
        c.station(songs + "asker a wants p dies 0 minds 5;asker b wants q dies 0 minds 5;asker d wants r dies 0 minds 11;");
        c.due("best(0), the one longest", c.x.best(0), 4);
        c.due("best(1), the one longest", c.x.best(1), 7);
        c.station(songs + "asker a wants p dies 0 minds 5;asker b wants p dies 0 minds 4;asker d wants p dies 0 minds 9;");
        c.due("best(0), one song twice", c.x.best(0), 5);
        c.due("best(1), one song twice", c.x.best(1), 8);
        c.station(songs + "asker a wants p dies 1 minds 5;asker b wants p dies 0 minds 0;asker d wants p dies 0 minds 2;plays minds<2;");
        c.due("best(0), not dead, forgotten, test", c.x.best(0), 0);
        c.station(songs + "asker a wants p dies 0 minds 5;asker b wants q dies 0 minds 7;worth 6-minds;");
        c.due("best(0), worth below 0", c.x.best(0), 1);
        c.station("hour 10;song p long 11 style 1;asker a wants p dies 0 minds 5;");
        c.due("best(0), too long", c.x.best(0), 0);
    }

    private static void bestOfLikeOnes() {
        Check c = new Check("like programmes");
        String songs = "hour 10;song p long 4 style 1;song q long 6 style 1;song r long 9 style 1;";
        c.station(songs + "asker a wants r dies 0 minds 6;asker b wants q dies 0 minds 3;asker d wants p dies 0 minds 3;");
        c.due("best(0), the shorter", c.x.best(0), 1);
        c.station(songs + "asker a wants q dies 0 minds 6;asker b wants q dies 0 minds 6;asker d wants q dies 0 minds 6;");
        c.due("best(0), the least bits", c.x.best(0), 1);
        c.station(songs + "asker a wants p dies 0 minds 0;asker b wants q dies 0 minds 2;asker d wants p dies 0 minds 2;asker f wants p dies 0 minds 2;");
        c.due("best(0), the shorter pair", c.x.best(0), 12);
        c.station(songs + "asker a wants p dies 0 minds 3;worth 0;");
        c.due("best(0), worth 0 is not played", c.x.best(0), 0);
    }

    private static void kept() {
        Check c = new Check("promise 12");
        c.station("hour 10;song p long 4 style 1;song q long 7 style 1;asker a wants p dies 0 minds 2;asker b wants q dies 1 minds 3;hush 20;");
        c.due("kept(0, 0)", c.x.kept(0, 0), NONE);
        c.x.days(5);
        // a; b above a; b; b; nobody: 6, 3, 3, 3, and of 10 left the last 5
        int[][] rows = {{0, 1, 6}, {1, 2, 3}, {2, 2, 3}, {3, 2, 3}, {4, 0, 5}};
        for (int k = 0; k < rows.length; k++) {
            for (int what = 0; what < 3; what++) {
                c.due("kept(" + k + ", " + what + ")", c.x.kept(k, what), rows[k][what]);
            }
        }
        c.due("kept(0, 3)", c.x.kept(0, 3), NONE);
        c.due("kept(0, -1)", c.x.kept(0, -1), NONE);
        c.due("kept(5, 0)", c.x.kept(5, 0), NONE);
        c.due("kept(-1, 0)", c.x.kept(-1, 0), NONE);
        c.x.days(35);
        c.due("has(9), 40", c.x.has(9), 40);
        c.due("kept(0, 0), 40", c.x.kept(0, 0), 0);
        c.x.days(2);
        c.due("has(9), 42", c.x.has(9), 40);
        c.due("kept(0, 0), 42", c.x.kept(0, 0), 2);
        c.due("kept(0, 1), 42", c.x.kept(0, 1), 2);
        c.due("kept(0, 2), 42", c.x.kept(0, 2), 3);
        c.due("kept(2, 2), 42", c.x.kept(2, 2), 5);
        c.due("kept(3, 2), 42", c.x.kept(3, 2), 0);
        c.due("kept(38, 0), 42", c.x.kept(38, 0), 40);
        c.due("kept(39, 0), 42", c.x.kept(39, 0), 41);
        c.due("kept(40, 0), 42", c.x.kept(40, 0), NONE);
        c.x.undo();
        c.due("kept(0, 0), undone", c.x.kept(0, 0), 0);
        c.due("kept(39, 0), undone", c.x.kept(39, 0), 39);
    }

    private static void aDay() {
        Check c = new Check("A DAY");
        // fades sees what is so behind the playing: since 0 when played today, the count with today's, age and day of today
        c.station("hour 5;song s long 5 style 1;asker a wants s dies 0 minds 50;asker b wants s dies 0 minds 40;asker d wants s dies 1 minds 40;"
                + "fades 20-min(since,9)+played*10+age;");
        c.x.days(1);
        c.due("minds of the one played", c.x.asker(0, 2), 30);
        c.due("minds of one not played", c.x.asker(1, 2), 11);
        c.due("minds of one not dead", c.x.asker(2, 2), 40);
        c.x.days(1);
        // d is played on day 1: 20 + 10, his age 0; a: 20 - 1 + 10 + 1; b: 20 - 9 + 1
        c.due("minds, played yesterday", c.x.asker(0, 2), 30);
        c.due("minds, never played", c.x.asker(1, 2), 12);
        c.due("minds, died and played today", c.x.asker(2, 2), 30);
        c.station("hour 5;song s long 5 style 1;asker a wants s dies 0 minds 0;asker b wants s dies 0 minds 1;asker d wants s dies 0 minds 98;fades minds+minds-1+5*(minds/98);");
        c.x.days(1);
        c.due("minds below 0", c.x.asker(0, 2), 0);
        c.due("minds as told", c.x.asker(1, 2), 1);
        c.due("minds above 99", c.x.asker(2, 2), 99);
        c.station("hour 5;song s long 5 style 1;asker a wants s dies 0 minds 0;fades minds+1;");
        c.x.days(1);
        c.due("minds of one forgotten", c.x.asker(0, 2), 1);
    }

    private static void lateDays() {
        Check c = new Check("late days");
        c.station("hour 5;song s long 5 style 1;asker a wants s dies 0 minds 50;fades minds;");
        // DAY 997, no silence, his song, dies 0, minds 50, last on 996, played 998 times
        c.turnsOn(true, 3, 229, 0, 0, 0, 0, 0, 50, 3, 229, 3, 230);
        c.due("days", c.x.days(1), 1);
        c.due("has(4)", c.x.has(4), 998);
        c.due("asker(0, 3)", c.x.asker(0, 3), 999);
        c.due("days", c.x.days(1), 1);
        c.due("has(4), the last DAY", c.x.has(4), 999);
        c.due("asker(0, 3), 999 at most", c.x.asker(0, 3), 999);
        c.due("asker(0, 4), played on 998", c.x.asker(0, 4), 1);
        c.due("has(9)", c.x.has(9), 2);
        c.due("kept(1, 0)", c.x.kept(1, 0), 998);
        c.due("best(0), on the last DAY", c.x.best(0), 1);
    }

    private static final String TURNS = "hour 10;song p long 4 style 1;song q long 7 style 1;asker a wants p dies 0 minds 4;"
            + "asker b wants q dies 1 minds 6;plays since>1;hush 20;";

    private static void later() {
        Check c = new Check("promise 13");
        c.due("later(0), no station", c.x.later(0), NONE);
        c.station(TURNS);
        // played anew on every second day: a on 0, 2 (minds 4, 2), b on 1, 3, 5 (minds 6, 4, 2)
        int[] due = {1, 2, 1, 2, 0, 2, 0, 0};
        for (int n = 0; n < due.length; n++) {
            c.due("later(" + n + ")", c.x.later(n), due[n]);
        }
        c.due("later(60)", c.x.later(60), 0);
        c.due("later(61)", c.x.later(61), NONE);
        c.due("later(-1)", c.x.later(-1), NONE);
        c.due("has(4), nothing has passed", c.x.has(4), 0);
        c.due("has(9), nothing has passed", c.x.has(9), 0);
        c.station("hour 10;song p long 4 style 1;asker a wants p dies 0 minds 4;fades minds;");
        c.turnsOn(true, 3, 226, 0, 0, 0, 0, 0, 50, 0, 0, 0, 0);
        c.due("later(5), DAY 999", c.x.later(5), 1);
        c.due("later(6), DAY 1000", c.x.later(6), NONE);
    }

    private static void minded() {
        Check c = new Check("promise 14");
        c.due("minded(0, 0), no station", c.x.minded(0, 0), NONE);
        c.station(TURNS);
        int[] a = {4, 3, 2, 1, 0, 0};
        int[] b = {6, 6, 5, 4, 3, 2};
        for (int n = 0; n < a.length; n++) {
            c.due("minded(0, " + n + ")", c.x.minded(0, n), a[n]);
            c.due("minded(1, " + n + ")", c.x.minded(1, n), b[n]);
        }
        c.due("minded(0, 60)", c.x.minded(0, 60), 0);
        c.due("minded(0, 61)", c.x.minded(0, 61), NONE);
        c.due("minded(0, -1)", c.x.minded(0, -1), NONE);
        c.due("minded(2, 0)", c.x.minded(2, 0), NONE);
        c.due("minded(-1, 0)", c.x.minded(-1, 0), NONE);
        c.due("asker(0, 2), nothing has passed", c.x.asker(0, 2), 4);
        c.station("hour 1;song s long 1 style 1;asker a wants s dies 0 minds 9;");
        c.turnsOn(true, 3, 226, 0, 0, 0, 0, 0, 9, 0, 0, 0, 0);
        c.due("minded(0, 5), DAY 999", c.x.minded(0, 5), 4);
        c.due("minded(0, 6), beyond DAY 999", c.x.minded(0, 6), NONE);
    }

    private static void nothing() {
        Check c = new Check("promise 15");
        c.due("nothing(), no station", c.x.nothing(), NONE);
        c.station("hour 1;");
        c.due("nothing(), no asker", c.x.nothing(), 0);
        c.station(TURNS);
        c.due("nothing()", c.x.nothing(), 4);
        c.x.days(3);
        c.due("nothing(), three days later", c.x.nothing(), 1);
        String one = "hour 1;song s long 1 style 1;asker a wants s dies 0 minds ";
        c.station(one + "60;");
        c.due("nothing(), on the 60th", c.x.nothing(), 60);
        c.station(one + "61;");
        c.due("nothing(), beyond the 60th", c.x.nothing(), NONE);
        c.turnsOn(true, 3, 226, 0, 0, 0, 0, 0, 5, 0, 0, 0, 0);
        c.due("nothing(), on DAY 999", c.x.nothing(), 5);
        c.turnsOn(true, 3, 226, 0, 0, 0, 0, 0, 6, 0, 0, 0, 0);
        c.due("nothing(), beyond DAY 999", c.x.nothing(), NONE);
    }

    private static void hushed() {
        Check c = new Check("promise 16");
        c.due("hushed(), no station", c.x.hushed(), NONE);
        c.station("hour 1;");
        c.due("hushed(), no hush", c.x.hushed(), 0);
        c.station(TURNS);
        // 6, 3, 6, 3 minutes are left, then 2 of 10
        c.due("hushed()", c.x.hushed(), 5);
        c.station("hour 1;hush 60;");
        c.due("hushed(), behind 60", c.x.hushed(), 60);
        c.station("hour 1;hush 61;");
        c.due("hushed(), beyond 60", c.x.hushed(), NONE);
        c.station("hour 4;song s long 4 style 1;asker a wants s dies 0 minds 9;hush 1;fades minds;");
        c.due("hushed(), always full", c.x.hushed(), NONE);
        c.station("hour 2;");
        c.turnsOn(true, 3, 226, 0, 10);
        c.due("hushed(), DAY 999", c.x.hushed(), 5);
        c.turnsOn(true, 3, 226, 0, 11);
        c.due("hushed(), beyond DAY 999", c.x.hushed(), NONE);
    }

    private static void full() {
        Check c = new Check("promise 17");
        c.due("full(), no station", c.x.full(), NONE);
        c.station("hour 5;");
        c.due("full(), no asker", c.x.full(), 0);
        String songs = "hour 5;song p long 5 style 1;song q long 3 style 1;song r long 2 style 1;song u long 1 style 1;";
        // the best one today is b (worth 9) alone, that leaves a for tomorrow: 1; a today, b and d tomorrow: 2
        c.station(songs + "asker a wants p dies 0 minds 1;asker b wants q dies 0 minds 9;asker d wants r dies 1 minds 9;");
        c.due("full(), not the best alone", c.x.full(), 2);
        c.due("best(0)", c.x.best(0), 2);
        c.station(songs + "asker a wants p dies 0 minds 9;plays since>1;");
        c.due("full(), but once", c.x.full(), 1);
        c.station(songs + "asker a wants p dies 1 minds 9;");
        c.due("full(), tomorrow", c.x.full(), 1);
        c.station(songs + "asker a wants p dies 2 minds 9;asker b wants q dies 0 minds 9;asker d wants u dies 0 minds 9;");
        c.due("full(), never", c.x.full(), 0);
        // to play q and r today leaves q alone tomorrow; p is played on the other day
        c.station(songs + "asker a wants q dies 0 minds 9;asker b wants r dies 0 minds 9;asker d wants p dies 0 minds 1;plays since>1;worth 0-minds;");
        c.due("full(), all worth below 0", c.x.full(), 2);
        c.station(songs + "asker a wants p dies 0 minds 9;fades minds;");
        c.turnsOn(true, 3, 230, 0, 0, 0, 0, 0, 9, 0, 0, 0, 0);
        c.due("full(), DAY 998", c.x.full(), 2);
        c.turnsOn(true, 3, 231, 0, 0, 0, 0, 0, 9, 0, 0, 0, 0);
        c.due("full(), DAY 999", c.x.full(), NONE);
    }

    private static void fame() {
        Check c = new Check("promise 18");
        c.due("fame(0, 1, 0), no station", c.x.fame(0, 1, 0), NONE);
        String songs = "hour 10;song p long 9 style 1;song q long 4 style 1;song r long 4 style 1;song u long 6 style 1;";
        // b (9 by 6 minutes) is always played: with p nothing is left for a, with q 4 minutes are
        c.station(songs + "asker a wants p dies 0 minds 5;asker b wants u dies 0 minds 9;");
        c.due("fame(0, 3, 0)", c.x.fame(0, 3, 0), 1);
        c.due("fame(0, 3, 1)", c.x.fame(0, 3, 1), 3);
        c.due("fame(0, 1, 0)", c.x.fame(0, 1, 0), 1);
        c.due("fame(0, 1, 1)", c.x.fame(0, 1, 1), 1);
        c.due("fame(0, 30, 0)", c.x.fame(0, 30, 0), 1);
        c.due("fame(0, 30, 1)", c.x.fame(0, 30, 1), 5);
        c.due("fame(1, 30, 0), any song does, so the first", c.x.fame(1, 30, 0), 0);
        c.due("fame(1, 30, 1)", c.x.fame(1, 30, 1), 9);
        c.due("asker(0, 0), nothing has passed", c.x.asker(0, 0), 0);
        c.due("fame(0, 0, 0)", c.x.fame(0, 0, 0), NONE);
        c.due("fame(0, 31, 0)", c.x.fame(0, 31, 0), NONE);
        c.due("fame(0, 3, 2)", c.x.fame(0, 3, 2), NONE);
        c.due("fame(0, 3, -1)", c.x.fame(0, 3, -1), NONE);
        c.due("fame(2, 3, 0)", c.x.fame(2, 3, 0), NONE);
        c.due("fame(-1, 3, 0)", c.x.fame(-1, 3, 0), NONE);
        c.station(songs + "asker a wants u dies 99 minds 5;");
        c.due("fame(0, 9, 0), never played, the first", c.x.fame(0, 9, 0), 0);
        c.due("fame(0, 9, 1), never played", c.x.fame(0, 9, 1), 0);
        c.station("hour 1;song s long 1 style 1;asker a wants s dies 0 minds 9;");
        c.turnsOn(true, 3, 226, 0, 0, 0, 0, 0, 9, 0, 0, 0, 0);
        c.due("fame(0, 5, 1), DAY 999", c.x.fame(0, 5, 1), 5);
        c.due("fame(0, 6, 1), beyond DAY 999", c.x.fame(0, 6, 1), NONE);
    }
}
