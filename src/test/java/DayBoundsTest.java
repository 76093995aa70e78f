/** Terms II and III: each sentence on DAYS, ACTS and what is AHEAD that names a boundary case has a test of its own here, in the document's order. */
public final class DayBoundsTest {
    private static final int NONE = GraveRequest.NONE;
    private static final int MAX = Integer.MAX_VALUE;
    private static final String SONGS = "hour 10;song p long 5 style 0;song q long 6 style 9;";

    public static void main(String[] args) {
        dayZero();
        deadFromTheDay();
        forgotten();
        canBePlayed();
        noLongerThanTheHour();
        likeProgrammes();
        playedOften();
        daysAgo();
        silence();
        mindedWithinBounds();
        playedToday();
        lastDay();
        letterAtMost();
        drawBelowToll();
        drawOfTheLiving();
        drawWithoutTheLiving();
        drawWrapsAround();
        twentyUndone();
        fortyKept();
        sixtyAhead();
        notBeyondDay999();
        withoutDraws();
        justAsLong();
        twoDays();
        fameOfLikeOnes();
        sharedOfLikeOnes();
        sharedBelowZero();
        heardAtMost();
        heardOfLikeOnes();
        seenAhead();
        telling();
        Check.end("DayBoundsTest");
    }

    /** The station is put on a DAY; its one asker is as told here, dead on DAY 0 and wanting SONG 0. */
    private static void turnTo(Check c, int day, int silence, int minds, int lastAndOne, int played) {
        c.turnsOn(true, day >> 8, day & 255, silence >> 8, silence & 255, 0, 0, 0, minds, lastAndOne >> 8, lastAndOne & 255, played >> 8, played & 255);
    }

    // ---- II

    private static void dayZero() {
        Check c = new Check("It is DAY 0 at first; no request was played");
        for (int round = 0; round < 2; round++) {
            c.station(SONGS + "asker a wants p dies 0 minds 9;");
            c.due("has(4)", c.x.has(4), 0);
            c.due("asker(0, 3)", c.x.asker(0, 3), 0);
            c.due("asker(0, 4)", c.x.asker(0, 4), 99);
            c.due("days(3)", c.x.days(3), 3);
            c.due("has(4), three days on", c.x.has(4), 3);
        }
    }

    private static void deadFromTheDay() {
        Check c = new Check("An ASKER is dead from the DAY told on");
        c.station(SONGS + "asker a wants p dies 0 minds 9;asker b wants p dies 2 minds 9;asker d wants p dies 99 minds 9;");
        c.due("has(6), DAY 0", c.x.has(6), 1);
        c.x.days(1);
        c.due("has(6), DAY 1", c.x.has(6), 1);
        c.due("asker(1, 5), DAY 1", c.x.asker(1, 5), 0);
        c.due("best(0), DAY 1", c.x.best(0), 1);
        c.x.days(1);
        c.due("has(6), DAY 2", c.x.has(6), 2);
        c.due("asker(1, 5), DAY 2", c.x.asker(1, 5), 1);
        c.due("asker(1, 2), minded as told until then", c.x.asker(1, 2), 9);
        c.due("best(0), DAY 2", c.x.best(0), 3);
        c.asks("total age", 2);
        c.x.days(96);
        c.due("has(6), DAY 98", c.x.has(6), 2);
        c.x.days(1);
        c.due("has(6), DAY 99", c.x.has(6), 3);
        c.due("asker(2, 2), DAY 99", c.x.asker(2, 2), 9);
        c.due("days(1), DAY 99", c.x.days(1), 1);
        c.due("asker(2, 2), DAY 100", c.x.asker(2, 2), 8);
    }

    private static void forgotten() {
        Check c = new Check("he is FORGOTTEN, if he is minded by 0 (dead or not)");
        c.station(SONGS + "asker a wants p dies 0 minds 0;asker b wants p dies 0 minds 1;asker d wants p dies 9 minds 0;asker e wants p dies 9 minds 1;");
        c.due("has(7)", c.x.has(7), 2);
        c.x.days(1);
        c.due("has(7), one more", c.x.has(7), 3);
        c.x.mourn(2, 1);
        c.due("has(7), one less", c.x.has(7), 2);
        c.station(SONGS);
        c.due("has(7), no asker", c.x.has(7), 0);
    }

    private static void canBePlayed() {
        Check c = new Check("His request CAN be played, if he is dead, not FORGOTTEN, and the TEST of plays holds");
        String three = SONGS + "asker a wants p dies 0 minds 1;asker b wants p dies 1 minds 1;asker d wants p dies 0 minds 0;";
        c.station(three);
        c.due("has(8)", c.x.has(8), 1);
        c.due("asker(0, 5)", c.x.asker(0, 5), 1);
        c.due("asker(1, 5), not dead", c.x.asker(1, 5), 0);
        c.due("asker(2, 5), FORGOTTEN", c.x.asker(2, 5), 0);
        c.station(three + "plays minds<2;");
        c.due("has(8), the TEST holds", c.x.has(8), 1);
        c.station(three + "plays minds<1;");
        c.due("has(8), the TEST does not hold", c.x.has(8), 0);
        c.due("best(0), the TEST does not hold", c.x.best(0), 0);
        c.due("shared(), the TEST does not hold", c.x.shared(), 0);
    }

    private static void best(Check c, String text, int bits, int minutes) {
        c.station(text);
        c.due("best(0) of " + text, c.x.best(0), bits);
        c.due("best(1) of " + text, c.x.best(1), minutes);
    }

    private static void noLongerThanTheHour() {
        Check c = new Check("their SONGS together no longer than the hour (a SONG that two ask for is played twice)");
        best(c, SONGS, 0, 0);
        best(c, SONGS + "asker a wants p dies 0 minds 5;asker b wants p dies 0 minds 4;", 3, 10);
        best(c, SONGS + "asker a wants p dies 0 minds 5;asker b wants q dies 0 minds 4;", 1, 5);
        best(c, SONGS + "asker a wants p dies 0 minds 5;asker b wants q dies 0 minds 6;", 2, 6);
        best(c, SONGS + "asker a wants q dies 0 minds 5;asker b wants q dies 0 minds 4;", 1, 6);
        best(c, "hour 60;song p long 60 style 0;asker a wants p dies 0 minds 5;", 1, 60);
        best(c, "hour 59;song p long 60 style 0;asker a wants p dies 0 minds 5;", 0, 0);
        best(c, "hour 8;song p long 1 style 0;" + Check.many("asker a", " wants p dies 0 minds 5;", 8), 255, 8);
        best(c, "hour 7;song p long 1 style 0;" + Check.many("asker a", " wants p dies 0 minds 5;", 8), 127, 7);
        best(c, "hour 1;song p long 1 style 0;" + Check.many("asker a", " wants p dies 0 minds 5;", 7) + "asker x wants p dies 0 minds 6;", 128, 1);
        // the eight of before are no longer there
        best(c, "hour 60;song p long 1 style 0;asker a wants p dies 0 minds 5;", 1, 1);
    }

    private static void likeProgrammes() {
        Check c = new Check("of like ones the shortest, then the least bits");
        best(c, SONGS + "asker a wants q dies 0 minds 5;asker b wants p dies 0 minds 5;", 2, 5);
        best(c, SONGS + "asker a wants q dies 0 minds 5;asker b wants q dies 0 minds 5;", 1, 6);
        best(c, SONGS + "asker a wants q dies 0 minds 8;asker b wants p dies 0 minds 4;asker d wants p dies 0 minds 4;", 1, 6);
        best(c, "hour 7;song q long 6 style 9;song r long 2 style 1;asker a wants q dies 0 minds 8;asker b wants r dies 0 minds 4;asker d wants r dies 0 minds 4;", 6, 4);
        best(c, SONGS + "asker a wants p dies 0 minds 5;worth 0;", 0, 0);
        best(c, SONGS + "asker a wants p dies 0 minds 5;worth 1;", 1, 5);
        best(c, SONGS + "asker a wants p dies 0 minds 5;worth 0-1;", 0, 0);
        best(c, SONGS + "asker a wants p dies 0 minds 5;asker b wants p dies 0 minds 3;worth minds-4;", 1, 5);
        best(c, "hour 60;song p long 7 style 0;" + Check.many("asker a", " wants p dies 0 minds 5;", 8) + "worth 9999*9999;", 255, 56);
        best(c, "hour 60;song p long 7 style 0;" + Check.many("asker a", " wants p dies 0 minds 5;", 8) + "worth 0-9999*9999;", 0, 0);
    }

    private static void playedOften() {
        Check c = new Check("each of its requests has been played once more (999 at most), today");
        c.station(SONGS + "asker a wants p dies 0 minds 9;fades minds;");
        turnTo(c, 500, 0, 9, 1, 997);
        c.due("asker(0, 3)", c.x.asker(0, 3), 997);
        int[] due = {998, 999, 999, 999};
        for (int often : due) {
            c.due("days(1)", c.x.days(1), 1);
            c.due("asker(0, 3)", c.x.asker(0, 3), often);
            c.due("asker(0, 4)", c.x.asker(0, 4), 1);
        }
        c.asks("total played", 999);
        c.x.days(100);
        c.due("asker(0, 3), a hundred on", c.x.asker(0, 3), 999);
    }

    private static void daysAgo() {
        Check c = new Check("how many DAYS ago his request was played last, 99 if never, 99 at most");
        c.station(SONGS + "asker a wants p dies 0 minds 9;fades minds;plays since>98;worth since;");
        // the DAY it was played last and 1, due since
        int[][] rows = {{0, 99}, {201, 0}, {200, 1}, {103, 98}, {102, 99}, {101, 99}, {2, 99}, {1, 99}};
        for (int[] row : rows) {
            turnTo(c, 200, 0, 9, row[0], 1);
            c.due("asker(0, 4), " + row[0], c.x.asker(0, 4), row[1]);
            c.due("asker(0, 5), " + row[0], c.x.asker(0, 5), row[1] == 99 ? 1 : 0);
            c.due("worth(0), " + row[0], c.x.worth(0), row[1]);
            c.asks("total since", row[1]);
        }
    }

    private static void silence() {
        Check c = new Check("THEN as many minutes of the hour as are left are SILENCE, as far as there is some to be spaced");
        // how long the one song is (0: there is none), hush, SILENCE of the DAY, what is left to be spaced
        int[][] rows = {{0, 0, 0, 0}, {0, 1, 1, 0}, {0, 9, 9, 0}, {0, 10, 10, 0}, {0, 11, 10, 1}, {0, 999, 10, 989},
            {4, 5, 5, 0}, {4, 6, 6, 0}, {4, 7, 6, 1}, {9, 1, 1, 0}, {9, 2, 1, 1}, {10, 0, 0, 0}, {10, 7, 0, 7}, {11, 11, 10, 1}};
        for (int[] row : rows) {
            String one = row[0] == 0 ? "" : "song s long " + row[0] + " style 0;asker a wants s dies 0 minds 9;";
            c.station("hour 10;" + one + "hush " + row[1] + ";");
            c.x.days(1);
            c.due("kept(0, 2), " + row[0] + " of 10, hush " + row[1], c.x.kept(0, 2), row[2]);
            c.due("has(5), " + row[0] + " of 10, hush " + row[1], c.x.has(5), row[3]);
        }
        c.x.days(2);
        c.due("kept(1, 2), the rest", c.x.kept(1, 2), 1);
        c.due("kept(2, 2), nothing left", c.x.kept(2, 2), 0);
        c.due("has(5), nothing left", c.x.has(5), 0);
    }

    private static void mindedWithinBounds() {
        Check c = new Check("each dead ASKER is minded as the SUM of fades tells, 0 .. 99 (below is 0, above 99)");
        Object[][] rows = {{"0", 0}, {"0-1", 0}, {"1", 1}, {"98", 98}, {"99", 99}, {"100", 99}, {"9999", 99}, {"9999*9999", 99},
            {"0-9999*9999", 0}, {"minds/0", 0}, {"minds*2", 99}, {"minds*2-1", 99}, {"minds*2-2", 98}, {"minds-50", 0}, {"minds-51", 0}, {"minds-49", 1}};
        for (Object[] row : rows) {
            c.station(SONGS + "asker a wants p dies 0 minds 50;asker b wants p dies 1 minds 50;fades " + row[0] + ";");
            c.x.days(1);
            c.due("asker(0, 2), fades " + row[0], c.x.asker(0, 2), (Integer) row[1]);
            c.due("asker(1, 2), not dead, fades " + row[0], c.x.asker(1, 2), 50);
        }
        c.station(SONGS + "asker a wants p dies 0 minds 0;fades minds+1;");
        c.x.days(1);
        c.due("asker(0, 2), dead and FORGOTTEN", c.x.asker(0, 2), 1);
    }

    private static void playedToday() {
        Check c = new Check("by what is so then (since is 0 for one played today, age that of this DAY)");
        c.station("hour 5;song s long 5 style 0;asker a wants s dies 0 minds 50;asker b wants s dies 0 minds 40;fades 10+since/9+20*age+played+3*day;");
        c.x.days(1);
        c.due("asker(0, 2), played on DAY 0: 10 + 1", c.x.asker(0, 2), 11);
        c.due("asker(1, 2), never played: 10 + 11", c.x.asker(1, 2), 21);
        c.x.days(1);
        c.due("asker(0, 2), played on the DAY ahead: 10 + 20 + 1 + 3", c.x.asker(0, 2), 34);
        c.due("asker(1, 2), played on DAY 1: 10 + 20 + 1 + 3", c.x.asker(1, 2), 34);
    }

    private static void lastDay() {
        Check c = new Check("The DAY is one more (999 at most)");
        c.station(SONGS + "asker a wants p dies 0 minds 9;fades minds;toll 100;");
        turnTo(c, 997, 7, 9, 0, 0);
        c.due("days(3), DAY 997", c.x.days(3), NONE);
        c.due("chance(3), DAY 997", c.x.chance(3), NONE);
        c.due("days(2), DAY 997", c.x.days(2), 2);
        c.due("has(4)", c.x.has(4), 999);
        c.due("kept(1, 0)", c.x.kept(1, 0), 998);
        String before = c.all();
        c.due("days(1), DAY 999", c.x.days(1), NONE);
        c.due("chance(1), DAY 999", c.x.chance(1), NONE);
        c.stays("days, chance", before);
        c.due("best(0), DAY 999", c.x.best(0), 1);
        c.due("later(0), DAY 999", c.x.later(0), 1);
        c.due("undo()", c.x.undo(), true);
        c.due("chance(2), DAY 997", c.x.chance(2), 0);
        c.due("has(4)", c.x.has(4), 999);
    }

    private static void letterAtMost() {
        Check c = new Check("a letter makes one minded by N more (99 at most)");
        // minded by, N, then minded by
        int[][] rows = {{0, 1, 1}, {0, 98, 98}, {0, 99, 99}, {1, 98, 99}, {1, 99, 99}, {97, 1, 98}, {98, 1, 99}, {98, 2, 99}, {98, 99, 99}, {99, 1, NONE}};
        for (int[] row : rows) {
            c.station(SONGS + "asker a wants p dies 5 minds " + row[0] + ";");
            c.due("mourn(0, " + row[1] + "), minded by " + row[0], c.x.mourn(0, row[1]), row[2]);
            c.due("asker(0, 2)", c.x.asker(0, 2), row[2] == NONE ? 99 : row[2]);
        }
    }

    private static void drawBelowToll() {
        Check c = new Check("ahead of each a DRAW of 100: below toll");
        // 42 draws 0, 1 draws 18, 0 draws 92, 2 to the 31 less 1 draws 99
        int[][] rows = {{42, 0, 0}, {42, 1, 1}, {1, 18, 0}, {1, 19, 1}, {0, 92, 0}, {0, 93, 1}, {MAX, 99, 0}, {MAX, 100, 1}};
        for (int[] row : rows) {
            c.station(SONGS + "asker a wants p dies 99 minds 9;toll " + row[1] + ";");
            c.x.seed(row[0]);
            c.due("chance(1), seed " + row[0] + ", toll " + row[1], c.x.chance(1), row[2]);
            c.due("asker(0, 1)", c.x.asker(0, 1), row[2] == 1 ? 0 : 99);
        }
        c.station(SONGS + Check.many("asker a", " wants p dies 99 minds 9;", 8) + "toll 100;");
        c.due("chance(5), one a DAY", c.x.chance(5), 5);
        c.due("has(6)", c.x.has(6), 5);
        c.due("chance(5), no more than there are", c.x.chance(5), 3);
        c.due("has(6)", c.x.has(6), 8);
    }

    private static void drawOfTheLiving() {
        Check c = new Check("a DRAW of these (by numbers): he dies on this DAY");
        String three = SONGS + "asker a wants p dies 99 minds 9;asker b wants p dies 99 minds 9;asker d wants p dies 99 minds 9;toll 100;";
        String two = SONGS + "asker a wants p dies 0 minds 9;asker b wants p dies 99 minds 9;asker d wants p dies 99 minds 9;toll 100;";
        // the second numbers are 5896899 by seed 1, 21983321 by seed 0, 17442222 by seed 42
        int[][] rows = {{1, 0, 2}, {0, 2, 2}, {42, 0, 1}};
        for (int[] row : rows) {
            c.station(three);
            c.x.days(4);
            c.x.seed(row[0]);
            c.due("chance(1), seed " + row[0], c.x.chance(1), 1);
            c.due("asker(" + row[1] + ", 1), of three", c.x.asker(row[1], 1), 4);
            c.due("has(6), of three", c.x.has(6), 1);
            c.due("asker(" + row[1] + ", 3), played on the DAY he dies", c.x.asker(row[1], 3), 1);
            c.station(two);
            c.x.seed(row[0]);
            c.due("chance(1), seed " + row[0], c.x.chance(1), 1);
            c.due("asker(" + row[2] + ", 1), of two", c.x.asker(row[2], 1), 0);
            c.due("has(6), of two", c.x.has(6), 2);
        }
    }

    private static void drawWithoutTheLiving() {
        Check c = new Check("if there are ASKERS that are not dead");
        String three = SONGS + "asker a wants p dies 99 minds 9;asker b wants p dies 99 minds 9;asker d wants p dies 99 minds 9;toll 100;";
        // one DRAW alone is made ahead, so that by seed 1 the third number, 10356626, tells who dies: 2 of three
        String[] ahead = {"hour 5;toll 100;", SONGS + "asker a wants p dies 0 minds 9;toll 100;", SONGS + "asker a wants p dies 9 minds 9;toll 18;",
            SONGS + "asker a wants p dies 9 minds 9;"};
        for (String text : ahead) {
            c.x.seed(1);
            c.station(text);
            c.due("chance(1), none dies", c.x.chance(1), 0);
            c.station(three);
            c.due("chance(1), one DRAW on", c.x.chance(1), 1);
            c.due("asker(2, 1), one DRAW on", c.x.asker(2, 1), 0);
        }
        // two DRAWS are made where one dies: the third number is 26 of 100
        for (int toll = 26; toll <= 27; toll++) {
            c.x.seed(1);
            c.station(SONGS + "asker a wants p dies 9 minds 9;asker b wants p dies 9 minds 9;toll " + toll + ";");
            c.due("chance(1)", c.x.chance(1), 1);
            c.due("chance(1), toll " + toll, c.x.chance(1), toll == 27 ? 1 : 0);
        }
    }

    private static void drawWrapsAround() {
        Check c = new Check("(1103515245 x + 12345) mod 2 to the 31; floor(x / 64) mod m");
        // seeds, their first four draws of 100
        int[][] rows = {{0, 92, 21, 71, 20}, {1, 18, 99, 26, 80}, {MAX, 99, 12, 16, 60}, {MAX - 1, 5, 34, 61, 0}, {1 << 30, 8, 5, 87, 4}};
        for (int[] row : rows) {
            for (int k = 1; k < row.length; k++) {
                for (int more = 0; more < 2; more++) {
                    c = new Check("seed " + row[0] + ", draw " + k);
                    c.x.seed(row[0]);
                    c.station("hour 5;");
                    c.due("chance, to pass draws", k == 1 ? 0 : c.x.chance(k - 1), 0);
                    c.station(SONGS + "asker a wants p dies 99 minds 9;toll " + Math.min(100, row[k] + more) + ";");
                    c.due("chance(1), toll " + (row[k] + more), c.x.chance(1), more);
                }
            }
        }
    }

    private static void twentyUndone() {
        Check c = new Check("The last 20 can be undone");
        c.station(SONGS + "asker a wants p dies 0 minds 9;");
        for (int i = 1; i <= 19; i++) {
            c.x.mourn(0, 1);
            c.due("has(11)", c.x.has(11), i);
        }
        c.x.want(0, 1);
        c.due("has(11), 20", c.x.has(11), 20);
        c.x.mourn(0, 1);
        c.due("has(11), 21", c.x.has(11), 20);
        c.x.days(2);
        c.due("has(11), 22", c.x.has(11), 20);
        for (int i = 20; i > 0; i--) {
            c.due("undo()", c.x.undo(), true);
            c.due("has(11)", c.x.has(11), i - 1);
        }
        c.due("undo(), the 21st", c.x.undo(), false);
        c.due("asker(0, 2), the first two stand", c.x.asker(0, 2), 11);
        c.due("asker(0, 0)", c.x.asker(0, 0), 0);
        c.due("has(4)", c.x.has(4), 0);
    }

    /** He is played on every second DAY from DAY 0 on: 4 of 10 minutes, 6 of SILENCE, then 10. */
    private static void keptFrom(Check c, int first, int count) {
        c.due("has(9)", c.x.has(9), count);
        for (int k = 0; k < count; k++) {
            boolean even = (first + k) % 2 == 0;
            c.due("kept(" + k + ", 0) from " + first, c.x.kept(k, 0), first + k);
            c.due("kept(" + k + ", 1) from " + first, c.x.kept(k, 1), even ? 1 : 0);
            c.due("kept(" + k + ", 2) from " + first, c.x.kept(k, 2), even ? 6 : 10);
        }
        c.due("kept(" + count + ", 0)", c.x.kept(count, 0), NONE);
    }

    private static void fortyKept() {
        Check c = new Check("KEPT is each DAY: its number, the PROGRAMME as bits, minutes of SILENCE; the last 40 are told");
        c.station("hour 10;song s long 4 style 0;asker a wants s dies 0 minds 9;fades minds;plays since>1;hush 999;");
        keptFrom(c, 0, 0);
        c.x.days(39);
        keptFrom(c, 0, 39);
        c.x.days(1);
        keptFrom(c, 0, 40);
        c.x.chance(1);
        keptFrom(c, 1, 40);
        c.x.days(60);
        keptFrom(c, 61, 40);
        c.due("undo()", c.x.undo(), true);
        keptFrom(c, 1, 40);
        c.due("undo()", c.x.undo(), true);
        keptFrom(c, 0, 40);
        c.due("undo()", c.x.undo(), true);
        keptFrom(c, 0, 39);
        c.due("undo()", c.x.undo(), true);
        keptFrom(c, 0, 0);
    }

    // ---- III

    private static void sixtyAhead() {
        Check c = new Check("AHEAD are DAYS as they come from now on (60 at most)");
        c.station("hour 10;song s long 4 style 0;asker a wants s dies 60 minds 9;asker b wants s dies 59 minds 1;fades minds-1;hush 601;");
        c.due("later(58)", c.x.later(58), 0);
        c.due("later(59)", c.x.later(59), 2);
        c.due("later(60)", c.x.later(60), 1);
        c.due("later(61)", c.x.later(61), NONE);
        c.due("minded(1, 59)", c.x.minded(1, 59), 1);
        c.due("minded(1, 60)", c.x.minded(1, 60), 0);
        c.due("minded(1, 61)", c.x.minded(1, 61), NONE);
        // 59 hours of 10 and one of 6
        c.due("hushed(), 596 of 601", c.x.hushed(), NONE);
        c.station("hour 10;hush 600;");
        c.due("hushed(), 600 of 600", c.x.hushed(), 60);
        c.station("hour 10;hush 601;");
        c.due("hushed(), 600 of 601", c.x.hushed(), NONE);
        c.station("hour 10;song s long 4 style 0;asker a wants s dies 0 minds 60;");
        c.due("nothing(), played 60 times", c.x.nothing(), 60);
        c.station("hour 10;song s long 4 style 0;asker a wants s dies 0 minds 61;");
        c.due("nothing(), played 61 times", c.x.nothing(), NONE);
    }

    private static void notBeyondDay999() {
        Check c = new Check("AHEAD (not beyond DAY 999)");
        c.station("hour 10;song s long 4 style 0;asker a wants s dies 0 minds 9;fades minds-played/61;");
        turnTo(c, 939, 0, 9, 0, 0);
        c.due("later(60), DAY 939", c.x.later(60), 1);
        c.due("minded(0, 60), DAY 939", c.x.minded(0, 60), 9);
        c.due("fame(0, 30, 1), DAY 939", c.x.fame(0, 30, 1), 30);
        turnTo(c, 940, 0, 9, 0, 0);
        c.due("later(59), DAY 940", c.x.later(59), 1);
        c.due("later(60), DAY 940", c.x.later(60), NONE);
        c.due("minded(0, 59), DAY 940", c.x.minded(0, 59), 9);
        c.due("minded(0, 60), DAY 940", c.x.minded(0, 60), NONE);
        turnTo(c, 969, 0, 9, 0, 0);
        c.due("fame(0, 30, 1), DAY 969", c.x.fame(0, 30, 1), 30);
        turnTo(c, 970, 0, 9, 0, 0);
        c.due("fame(0, 29, 1), DAY 970", c.x.fame(0, 29, 1), 29);
        c.due("fame(0, 30, 1), DAY 970", c.x.fame(0, 30, 1), NONE);
        turnTo(c, 999, 1, 9, 0, 0);
        c.due("later(0), DAY 999", c.x.later(0), 1);
        c.due("later(1), DAY 999", c.x.later(1), NONE);
        c.due("minded(0, 0), DAY 999", c.x.minded(0, 0), 9);
        c.due("minded(0, 1), DAY 999", c.x.minded(0, 1), NONE);
        c.due("fame(0, 1, 1), DAY 999", c.x.fame(0, 1, 1), NONE);
        c.due("nothing(), DAY 999", c.x.nothing(), NONE);
        c.due("hushed(), DAY 999", c.x.hushed(), NONE);
        turnTo(c, 999, 0, 0, 0, 0);
        c.due("nothing(), DAY 999, today", c.x.nothing(), 0);
        c.due("hushed(), DAY 999, now", c.x.hushed(), 0);
        turnTo(c, 998, 6, 9, 0, 0);
        c.due("hushed(), DAY 998, tomorrow", c.x.hushed(), 1);
        turnTo(c, 998, 7, 9, 0, 0);
        c.due("hushed(), DAY 998, never", c.x.hushed(), NONE);
    }

    private static void withoutDraws() {
        Check c = new Check("AHEAD are DAYS without DRAWS");
        c.station(SONGS + "asker a wants p dies 99 minds 9;asker b wants p dies 99 minds 9;asker d wants p dies 99 minds 9;toll 100;");
        c.due("later(60)", c.x.later(60), 0);
        c.due("minded(0, 60)", c.x.minded(0, 60), 9);
        c.due("nothing()", c.x.nothing(), 0);
        c.due("fame(0, 30, 1)", c.x.fame(0, 30, 1), 0);
        c.due("full()", c.x.full(), 0);
        c.due("tells(0, 0)", c.x.tells(0, 0), 0);
        c.due("days(50)", c.x.days(50), 0);
        c.due("has(6)", c.x.has(6), 0);
        // the seed is still 1: 18 of 100, then 5896899, the first of three
        c.due("chance(1)", c.x.chance(1), 1);
        c.due("asker(0, 1)", c.x.asker(0, 1), 50);
    }

    private static void full(Check c, String text, int due) {
        c.station(text);
        c.due("full() of " + text, c.x.full(), due);
    }

    private static void justAsLong() {
        Check c = new Check("FULL is an hour, if the SONGS of its PROGRAMME are just as long");
        String songs = "song p long 5 style 0;song q long 4 style 0;song r long 60 style 0;song u long 59 style 0;song v long 1 style 0;";
        full(c, "hour 10;", 0);
        full(c, "hour 10;" + songs + "asker a wants p dies 0 minds 9;asker b wants p dies 0 minds 9;", 2);
        full(c, "hour 10;" + songs + "asker a wants p dies 0 minds 9;asker b wants q dies 0 minds 9;", 0);
        full(c, "hour 9;" + songs + "asker a wants p dies 0 minds 9;asker b wants q dies 0 minds 9;", 2);
        full(c, "hour 8;" + songs + "asker a wants p dies 0 minds 9;asker b wants q dies 0 minds 9;", 0);
        full(c, "hour 60;" + songs + "asker a wants r dies 0 minds 9;", 2);
        full(c, "hour 60;" + songs + "asker a wants u dies 0 minds 9;", 0);
        full(c, "hour 60;" + songs + "asker a wants u dies 0 minds 9;asker b wants v dies 0 minds 9;asker d wants r dies 1 minds 9;", 2);
        full(c, "hour 59;" + songs + "asker a wants r dies 0 minds 9;", 0);
        full(c, "hour 1;" + songs + "asker a wants v dies 0 minds 9;asker b wants v dies 0 minds 9;", 2);
        full(c, "hour 8;" + songs + Check.many("asker a", " wants v dies 0 minds 9;", 8), 2);
        full(c, "hour 9;" + songs + Check.many("asker a", " wants v dies 0 minds 9;", 8), 0);
    }

    private static void twoDays() {
        Check c = new Check("MOST FULL are two DAYS, today and the next one, with any PROGRAMMES: how many of both are FULL at most");
        String songs = "hour 10;song p long 10 style 0;song q long 5 style 0;song r long 6 style 0;";
        full(c, songs + "asker a wants p dies 0 minds 1;", 1);
        full(c, songs + "asker a wants p dies 0 minds 2;", 2);
        full(c, songs + "asker a wants p dies 1 minds 2;", 1);
        full(c, songs + "asker a wants p dies 2 minds 2;", 0);
        full(c, songs + "asker a wants p dies 0 minds 0;", 0);
        full(c, songs + "asker a wants p dies 0 minds 9;plays since>1;", 1);
        full(c, songs + "asker a wants p dies 0 minds 9;asker b wants p dies 0 minds 9;plays since>1;", 2);
        // only what is not played today is minded tomorrow: p today, then both q
        full(c, songs + "asker a wants p dies 0 minds 1;asker b wants q dies 0 minds 9;asker d wants q dies 0 minds 9;fades since;", 2);
        // the BEST one today is b's alone, and a is FORGOTTEN tomorrow
        full(c, songs + "asker a wants p dies 0 minds 1;asker b wants r dies 0 minds 9;", 1);
        c.station(songs + "asker a wants p dies 0 minds 9;fades minds;");
        turnTo(c, 998, 0, 9, 0, 0);
        c.due("full(), DAY 998", c.x.full(), 2);
        turnTo(c, 999, 0, 9, 0, 0);
        c.due("full(), DAY 999", c.x.full(), NONE);
    }

    private static void fame(Check c, int asker, int n, int song, int often) {
        c.due("fame(" + asker + ", " + n + ", 0)", c.x.fame(asker, n, 0), song);
        c.due("fame(" + asker + ", " + n + ", 1)", c.x.fame(asker, n, 1), often);
    }

    private static void fameOfLikeOnes() {
        Check c = new Check("FAME: by which his request is played most often in n DAYS AHEAD; of like ones the first");
        c.station("hour 10;song p long 11 style 0;song q long 6 style 0;song r long 5 style 0;song u long 5 style 0;"
                + "asker a wants q dies 0 minds 9;asker b wants q dies 1 minds 30;fades minds;");
        // b is minded more and wants 6 minutes from tomorrow on: beside him neither q nor r nor u fits, so a is played today alone
        fame(c, 0, 1, 1, 1);
        fame(c, 0, 30, 1, 1);
        // b is played from tomorrow on by each of q, r, u; q is the first
        fame(c, 1, 1, 0, 0);
        fame(c, 1, 2, 1, 1);
        fame(c, 1, 30, 1, 29);
        c.x.want(1, 2);
        // b wants 5 minutes now, beside him r and u fit on each DAY; r is the first
        fame(c, 0, 1, 1, 1);
        fame(c, 0, 2, 2, 2);
        fame(c, 0, 30, 2, 30);
        c.station("hour 5;song p long 6 style 0;asker a wants p dies 0 minds 9;");
        fame(c, 0, 30, 0, 0);
        c.station("hour 5;" + Check.many("song s", " long 6 style 0;", 5) + "song x long 5 style 0;asker a wants sa dies 0 minds 9;");
        fame(c, 0, 9, 5, 9);
    }

    private static void shared(Check c, String askers, int due) {
        c.station("hour 1;song p long 60 style 0;" + askers);
        c.due("shared() of " + askers, c.x.shared(), due);
    }

    private static void sharedOfLikeOnes() {
        Check c = new Check("SHARED: the less is as great as can be; of like ones the least bits of the first STATION");
        shared(c, "", 0);
        shared(c, "asker a wants p dies 0 minds 9;", 0);
        shared(c, "asker a wants p dies 1 minds 9;asker b wants p dies 0 minds 0;", 0);
        shared(c, "asker a wants p dies 0 minds 5;asker b wants p dies 0 minds 5;", 1);
        shared(c, "asker a wants p dies 0 minds 1;asker b wants p dies 0 minds 99;", 1);
        shared(c, "asker a wants p dies 0 minds 99;asker b wants p dies 0 minds 1;", 1);
        shared(c, "asker a wants p dies 1 minds 9;asker b wants p dies 0 minds 5;asker d wants p dies 0 minds 5;", 2);
        // 3, 1, 1, 1: 3 and 3
        shared(c, "asker a wants p dies 0 minds 3;asker b wants p dies 0 minds 1;asker d wants p dies 0 minds 1;asker e wants p dies 0 minds 1;", 1);
        // 1, 1, 1, 3
        shared(c, "asker a wants p dies 0 minds 1;asker b wants p dies 0 minds 1;asker d wants p dies 0 minds 1;asker e wants p dies 0 minds 3;", 7);
        shared(c, Check.many("asker a", " wants p dies 0 minds 5;", 8), 15);
        shared(c, Check.many("asker a", " wants p dies 0 minds 5;", 7) + "asker x wants p dies 0 minds 35;", 127);
        shared(c, Check.many("asker a", " wants p dies 0 minds 5;", 8) + "worth 9999*9999;", 15);
        shared(c, Check.many("asker a", " wants p dies 0 minds 5;", 8) + "worth 0;", 0);
        // the eight of before are no longer there
        shared(c, "asker a wants p dies 0 minds 9;", 0);
    }

    private static void sharedBelowZero() {
        Check c = new Check("SHARED, SUMS of worth below 0");
        // 4 and -1, none is left out: the less is -1 if each side has one, 0 if one has both
        shared(c, "asker a wants p dies 0 minds 9;asker b wants p dies 0 minds 4;worth minds-5;", 0);
        // -5 and -3: the less is -5, or -8 if one side has both
        shared(c, "asker a wants p dies 0 minds 1;asker b wants p dies 0 minds 3;worth minds-6;", 1);
        shared(c, Check.many("asker a", " wants p dies 0 minds 5;", 8) + "worth 0-9999*9999;", 15);
    }

    private static void heard(Check c, String text, int pleased, int... askers) {
        c.station(text);
        c.due("heard(NONE) of " + text, c.x.heard(NONE), pleased);
        for (int e = 0; e < askers.length; e++) {
            c.due("heard(" + e + ") of " + text, c.x.heard(e), askers[e]);
        }
        c.due("heard(" + askers.length + ") of " + text, c.x.heard(askers.length), NONE);
    }

    private static void heardAtMost() {
        Check c = new Check("HEARD: requests of the BEST PROGRAMME of today, played each to one EAR, each EAR one; 9 less how far its style is from its taste");
        String songs = "hour 60;song p long 1 style 0;song q long 1 style 9;";
        heard(c, songs, 0);
        heard(c, songs + "ear x taste 0;", 0, NONE);
        heard(c, songs + "asker a wants p dies 0 minds 9;", 0);
        heard(c, songs + "asker a wants p dies 1 minds 9;ear x taste 0;", 0, NONE);
        heard(c, songs + "asker a wants p dies 0 minds 9;ear x taste 0;", 9, 0);
        heard(c, songs + "asker a wants p dies 0 minds 9;ear x taste 8;", 1, 0);
        heard(c, songs + "asker a wants q dies 0 minds 9;ear x taste 9;", 9, 0);
        heard(c, songs + "asker a wants q dies 0 minds 9;ear x taste 1;", 1, 0);
        heard(c, songs + "asker a wants q dies 0 minds 9;asker b wants p dies 0 minds 9;ear x taste 0;ear y taste 9;", 18, 1, 0);
        // b to x (9) and a to y (1), not b to y (8)
        heard(c, songs + "asker a wants q dies 0 minds 9;asker b wants p dies 0 minds 9;ear x taste 0;ear y taste 1;", 10, 1, 0);
        heard(c, songs + Check.many("asker a", " wants p dies 0 minds 9;", 8) + Check.many("ear e", " taste 0;", 5), 45, 0, 1, 2, 3, 4);
        heard(c, songs + Check.many("asker a", " wants p dies 0 minds 9;", 7) + "asker x wants q dies 0 minds 9;ear e taste 0;ear f taste 9;", 18, 0, 7);
        heard(c, songs + "asker a wants q dies 0 minds 9;" + Check.many("ear e", " taste 9;", 5), 9, NONE, NONE, NONE, NONE, 0);
        // the five ears and eight askers of before are no longer there
        heard(c, songs + "asker a wants p dies 0 minds 9;ear x taste 1;", 8, 0);
    }

    private static void heardOfLikeOnes() {
        Check c = new Check("HEARD: of like ones the first row (EAR by EAR the ASKER, none ahead of these)");
        String songs = "hour 60;song p long 1 style 4;song q long 1 style 6;";
        heard(c, songs + "asker a wants p dies 0 minds 9;ear x taste 4;ear y taste 4;", 9, NONE, 0);
        heard(c, songs + "asker a wants p dies 0 minds 9;asker b wants p dies 0 minds 9;ear x taste 4;", 9, 0);
        heard(c, songs + "asker a wants p dies 0 minds 9;asker b wants p dies 0 minds 9;ear x taste 4;ear y taste 4;", 18, 0, 1);
        heard(c, songs + "asker a wants p dies 0 minds 9;asker b wants p dies 0 minds 9;ear x taste 4;ear y taste 4;ear z taste 4;", 18, NONE, 0, 1);
        // both are 1 from 5: 16 either way
        heard(c, songs + "asker a wants q dies 0 minds 9;asker b wants p dies 0 minds 9;ear x taste 5;ear y taste 5;", 16, 0, 1);
        heard(c, songs + "asker a wants q dies 0 minds 9;asker b wants p dies 0 minds 9;ear x taste 5;", 8, 0);
    }

    private static void seenAhead() {
        Check c = new Check("SEEN are rows of DAYS AHEAD (0 .. 30; 0 is today), an ASKER, 1 if his request is played on it, else 0: numbers (0 .. 99)");
        c.station("hour 5;song s long 5 style 0;asker a wants s dies 0 minds 5;");
        // on DAY d he is played if he is minded by more than d now
        int[][] rows = {{0, 1, 99, 1, 99}, {0, 0, 1, 0, 0}, {1, 1, 98, 2, 99}, {1, 0, 2, 0, 1}, {29, 1, 70, 30, 99}, {30, 1, 69, 31, 99}, {30, 0, 31, 0, 30}};
        for (int[] row : rows) {
            c.sees(1, row[0], 0, row[1]);
            for (int what = 0; what < 3; what++) {
                c.due("fits(0, " + what + "), day " + row[0] + ", " + row[1], c.x.fits(0, what), row[2 + what]);
            }
        }
        c.sees(2, 0, 0, 1, 1, 0, 0);
        c.due("fits(0, 1), 1 alone", c.x.fits(0, 1), 1);
        c.due("fits(0, 2), 1 alone", c.x.fits(0, 2), 1);
        c.sees(2, 1, 0, 1, 0, 0, 0);
        c.due("fits(0, 0), none", c.x.fits(0, 0), 0);
        c.station("hour 5;song s long 5 style 0;asker a wants s dies 0 minds 5;plays minds=99 or minds=0 or minds>50;fades minds;");
        c.sees(1, 0, 0, 1);
        c.due("fits(0, 0), 51 .. 99", c.x.fits(0, 0), 49);
        c.station("hour 5;song s long 5 style 0;asker a wants s dies 0 minds 5;plays minds=99;fades minds;");
        c.sees(1, 30, 0, 1);
        c.due("fits(0, 0), 99 alone", c.x.fits(0, 0), 1);
        c.due("fits(0, 1), 99 alone", c.x.fits(0, 1), 99);
        c.due("fits(0, 2), 99 alone", c.x.fits(0, 2), 99);
    }

    private static void tells(Check c, int day, int left) {
        c.due("tells(0, 0)", c.x.tells(0, 0), day);
        c.due("tells(0, 1)", c.x.tells(0, 1), left);
    }

    private static void telling() {
        Check c = new Check("TELLING is the DAY AHEAD (0 .. 30) by whose PROGRAMME the most of these left are fewest; of like ones the first");
        String one = "hour 5;song s long 5 style 0;asker a wants s dies 0 minds 5;";
        // minded by more than d: 99 - d of 100; more than 30 DAYS ahead it would be fewer
        c.station(one);
        tells(c, 30, 69);
        c.station(one + "fades minds-3;");
        // 99 - 3 d of 100: 51 on day 16, 48 (and 52) on day 17
        tells(c, 16, 51);
        c.station(one + "fades minds-2;");
        // 99 - 2 d: 51 (and 49) on day 24, 49 (and 51) on day 25
        tells(c, 24, 51);
        c.station(one + "fades minds;");
        // each DAY tells 0 from the others
        tells(c, 0, 99);
        c.station(one + "plays not all;");
        tells(c, 0, 100);
        c.station(one + "plays day=30 and minds>49;fades minds;");
        tells(c, 30, 50);
        c.station(one + "plays day=31 and minds>49;fades minds;");
        tells(c, 0, 100);
        // 0 .. 49 are played tomorrow, 0 among them
        c.station(one + "plays day=1 and minds<51;fades minds+1;");
        tells(c, 1, 50);
        // 50 .. 99 are, 99 among them
        c.station(one + "plays day=1 and minds>49;fades minds;");
        tells(c, 1, 50);
        c.station(one);
        turnTo(c, 999, 0, 5, 0, 0);
        tells(c, 0, 99);
        turnTo(c, 998, 0, 5, 0, 0);
        tells(c, 1, 98);
        turnTo(c, 969, 0, 5, 0, 0);
        tells(c, 30, 69);
        turnTo(c, 970, 0, 5, 0, 0);
        tells(c, 29, 70);
    }
}
