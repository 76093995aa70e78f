/** Terms I and IV: each sentence on texts that names a boundary case has a test of its own here, in the document's order. */
public final class TextBoundsTest {
    private static final int NONE = GraveRequest.NONE;
    private static final String HOUR = "hour 9;";
    private static final String SONG = HOUR + "song s long 4 style 7;";
    private static final String ASKER = SONG + "asker a wants s dies 0 minds 6;";
    private static final String OWN_WORDS = "hour song long style asker wants dies minds ear taste fades plays worth hush toll age since "
            + "played day number alive on or and not all min max";

    public static void main(String[] args) {
        eightyStatements();
        hourFirstAndAlone();
        ranges();
        rangesAsTold();
        sixSongs();
        eightAskers();
        fiveEars();
        oneOfEachSum();
        lastHushAndToll();
        fourDigits();
        songsInPlaysAndWorth();
        division();
        million();
        fromTheLeft();
        withoutSums();
        sixLetters();
        ownWords();
        unlikeNames();
        namesAhead();
        blanks();
        sideBySide();
        firstFault();
        unknownWords();
        wantingWords();
        endsTooSoon();
        sixOpen();
        questionForms();
        questionsWithoutAskers();
        questionParts();
        questionFaults();
        sixOpenInQuestions();
        Check.end("TextBoundsTest");
    }

    private static void faulty(String title, int kind, String... marked) {
        for (String text : marked) {
            new Check(title).faulty(kind, text);
        }
    }

    private static void good(String title, String... texts) {
        for (String text : texts) {
            new Check(title).station(text);
        }
    }

    // ---- I, STATEMENTS

    private static void eightyStatements() {
        String title = "{ STATEMENT ; } (80 at most); an 81st STATEMENT (whatever stands there), at its first byte";
        String eighty = HOUR + "toll 1;".repeat(79);
        good(title, HOUR, eighty, eighty + "\n \n");
        for (String behind : new String[] {"toll 1;", "hour 9;", "x", ";", "7", "TOLL", "" + (char) 0, "" + (char) 255, "toll 999;", "song hour"}) {
            faulty(title, 5, eighty + "^" + behind, eighty + " \n ^" + behind);
        }
        String last = HOUR + "toll 1;".repeat(78);
        faulty(title, 1, last + "toll 1^", last + "^;", last + "^hour 9;");
        good(title, last + "fades 1;");
    }

    private static void hourFirstAndAlone() {
        String title = "hour N (1 .. 60 minutes; the first STATEMENT, and it alone)";
        faulty(title, 1, "^song s long 1 style 1;hour 9;", "^toll 1;", "^;hour 9;", "hour 9;^hour 9;", "hour 9;toll 1;^hour 0;",
                HOUR + "toll 1;".repeat(78) + "^hour 9;");
    }

    /** Each number of a STATION: the text ahead of it, behind it, its least, its greatest. */
    private static final String[][] RANGES = {
        {"hour ", ";", "1", "60"},
        {"hour 9;song s long ", " style 1;", "1", "60"},
        {"hour 9;song s long 1 style ", ";", "0", "9"},
        {SONG + "asker a wants s dies ", " minds 1;", "0", "99"},
        {SONG + "asker a wants s dies 1 minds ", ";", "0", "99"},
        {"hour 9;ear e taste ", ";", "0", "9"},
        {"hour 9;hush ", ";", "0", "999"},
        {"hour 9;toll ", ";", "0", "100"}};

    private static void ranges() {
        String title = "2 a number that can't be, at it";
        for (String[] row : RANGES) {
            int least = Integer.parseInt(row[2]);
            int greatest = Integer.parseInt(row[3]);
            good(title, row[0] + least + row[1], row[0] + greatest + row[1]);
            good(title, row[0] + "000" + Math.max(least, 1) + row[1], row[0] + ("0" + greatest) + row[1]);
            if (least > 0) {
                faulty(title, 2, row[0] + "^0" + row[1], row[0] + "^0000" + row[1]);
            }
            faulty(title, 2, row[0] + "^" + (greatest + 1) + row[1], row[0] + "^9999" + row[1], row[0] + "^" + (greatest + 1));
            faulty("a 5th digit at itself", 1, row[0] + "0000^1" + row[1], row[0] + "9999^9" + row[1], row[0] + "1000^00000" + row[1]);
            faulty("1 where a number is asked", 1, row[0] + "^" + row[1].trim(), row[0] + "^x" + row[1], row[0] + "^-1" + row[1], row[0] + "^+1" + row[1],
                    row[0] + "^");
        }
    }

    /** The least and the greatest numbers are told as they are. */
    private static void rangesAsTold() {
        Check c = new Check("the least numbers");
        c.station("hour 1;song s long 1 style 0;asker a wants s dies 0 minds 0;ear e taste 0;hush 0;toll 0;");
        int[] least = {1, 1, 0, 0, 0, 0};
        int[] greatest = {60, 60, 9, 99, 99, 999};
        numbersTold(c, least);
        c = new Check("the greatest numbers");
        c.station("hour 60;song s long 60 style 9;asker a wants s dies 99 minds 99;ear e taste 9;hush 999;toll 100;");
        numbersTold(c, greatest);
    }

    private static void numbersTold(Check c, int[] due) {
        int[] got = {c.x.has(0), c.x.song(0, 0), c.x.song(0, 1), c.x.asker(0, 1), c.x.asker(0, 2), c.x.has(5)};
        for (int i = 0; i < due.length; i++) {
            c.due("number " + i, got[i], due[i]);
        }
    }

    private static void sixSongs() {
        String title = "6 SONGS; 5 one too many of a kind, at its first byte";
        String six = HOUR + Check.many("song s", " long 1 style 1;", 6);
        Check c = new Check(title);
        c.station(six);
        c.due("has(1)", c.x.has(1), 6);
        c.due("song(5, 0)", c.x.song(5, 0), 1);
        c.due("letter(0, 5, 1)", c.x.letter(0, 5, 1), 6);
        faulty(title, 5, six + "^song", six + " ^song sa long 1 style 1;", six + "^song t long 61 style 1;", six + "toll 1;^song;");
        faulty(title, 1, six + "^songs", six + "^son");
    }

    private static void eightAskers() {
        String title = "8 ASKERS; 5 one too many of a kind, at its first byte";
        String eight = SONG + Check.many("asker a", " wants s dies 1 minds 1;", 8);
        Check c = new Check(title);
        c.station(eight);
        c.due("has(2)", c.x.has(2), 8);
        c.due("asker(7, 1)", c.x.asker(7, 1), 1);
        c.due("letter(1, 7, 1)", c.x.letter(1, 7, 1), 8);
        faulty(title, 5, eight + "^asker", eight + "\n^asker s", eight + "^asker b wants x", eight + "toll 1;^asker 7");
    }

    private static void fiveEars() {
        String title = "5 EARS; 5 one too many of a kind, at its first byte";
        String five = HOUR + Check.many("ear e", " taste 1;", 5);
        Check c = new Check(title);
        c.station(five);
        c.due("has(3)", c.x.has(3), 5);
        c.due("letter(2, 4, 1)", c.x.letter(2, 4, 1), 5);
        faulty(title, 5, five + "^ear", five + " ^ear ea taste 1;", five + "^ear f taste 10;");
    }

    private static void oneOfEachSum() {
        String title = "fades SUM, plays TEST, worth SUM (one each); a second fades, plays, worth, too";
        good(title, HOUR + "fades 1;plays all;worth 1;", HOUR + "worth 1;plays all;fades 1;");
        for (String one : new String[] {"fades 1;", "plays all;", "worth 1;"}) {
            faulty(title, 5, HOUR + one + "^" + one, HOUR + one + "toll 1;hush 1;^" + one.substring(0, 5), HOUR + one + "^" + one.substring(0, 5) + ";");
        }
        faulty(title, 1, HOUR + "fades 1^<2;", HOUR + "plays 1^;", HOUR + "worth ^all;");
    }

    private static void lastHushAndToll() {
        Check c = new Check("the last one of each counts (0, 0 without)");
        String living = SONG + "asker a wants s dies 99 minds 6;";
        c.station(living);
        c.due("has(5), without", c.x.has(5), 0);
        c.due("chance(50), without", c.x.chance(50), 0);
        // 42 draws 0, below any toll but 0
        c.x.seed(42);
        c.due("chance(1), without", c.x.chance(1), 0);
        c.station(living + "hush 999;hush 3;toll 100;hush 8;toll 0;");
        c.due("has(5), the last", c.x.has(5), 8);
        c.x.seed(42);
        c.due("chance(1), toll 0 last", c.x.chance(1), 0);
        c.station(living + "toll 0;hush 9;toll 100;hush 0;");
        c.due("has(5), 0 last", c.x.has(5), 0);
        c.due("chance(1), toll 100 last", c.x.chance(1), 1);
        c.station(living);
        c.due("has(5), without, behind another station", c.x.has(5), 0);
        c.due("chance(50), without, behind another station", c.x.chance(50), 0);
    }

    // ---- I, SUMS and TESTS

    private static void worth(String title, String sum, long due) {
        Check c = new Check(title);
        c.station(ASKER + "worth " + sum + ";");
        c.due("worth " + sum, c.x.worth(0), due);
        c.asks("total " + sum, due);
    }

    private static void fourDigits() {
        String title = "PART: N (1 to 4 digits)";
        worth(title, "0", 0);
        worth(title, "9", 9);
        worth(title, "0000", 0);
        worth(title, "0042", 42);
        worth(title, "9999", 9999);
        worth(title, "9999+0001", 10000);
        faulty(title, 1, HOUR + "worth 0000^0;", HOUR + "fades 1+1234^56;", HOUR + "plays 1000^0<1;", HOUR + "plays 1<1000^0;",
                HOUR + "worth min(1000^0,1);", HOUR + "worth ^;");
    }

    private static void songsInPlaysAndWorth() {
        String title = "in plays, worth: long; style";
        good(title, HOUR + "plays long>style;worth long*style;");
        faulty(title, 1, HOUR + "fades ^long;", HOUR + "fades ^style;", HOUR + "fades minds+^long;", HOUR + "fades min(1,^style);",
                HOUR + "worth long;fades ^long;", HOUR + "worth ^alive;", HOUR + "plays ^on=1;", HOUR + "plays ^number=1;", HOUR + "plays ^wants 1=1;");
        Check c = new Check("the same behind a question");
        c.station(ASKER);
        c.asks("total number+alive+on+wants 0", 2);
        c.faulty(1, HOUR + "worth ^alive;");
        c.faulty(1, HOUR + "fades ^long;");
        c.faulty(1, HOUR + "plays ^wants 1=1;");
        c.asks("total number+alive+on+wants 0", 2);
    }

    private static void division() {
        String title = "/ gives the greatest whole number not above, by 0 it gives 0";
        worth(title, "6/3", 2);
        worth(title, "7/3", 2);
        worth(title, "8/3", 2);
        worth(title, "2/3", 0);
        worth(title, "(0-1)/3", -1);
        worth(title, "(0-3)/3", -1);
        worth(title, "(0-4)/3", -2);
        worth(title, "1/(0-3)", -1);
        worth(title, "3/(0-3)", -1);
        worth(title, "4/(0-3)", -2);
        worth(title, "(0-4)/(0-3)", 1);
        worth(title, "0/(0-3)", 0);
        worth(title, "0/0", 0);
        worth(title, "9999/0", 0);
        worth(title, "(0-9999)/0", 0);
        worth(title, "5/(6-minds)", 0);
        worth(title, "5/0+7", 7);
        worth(title, "1000*1000/(0-1)", -1000000);
        worth(title, "(0-1000*1000)/(0-1)", 1000000);
    }

    private static void million() {
        String title = "each sum, difference, product above 10 to the 6 is that, below -10 to the 6 likewise";
        worth(title, "999*1001", 999999);
        worth(title, "999*1001+1", 1000000);
        worth(title, "999*1001+2", 1000000);
        worth(title, "1000*1000", 1000000);
        worth(title, "1000*1001", 1000000);
        worth(title, "9999*9999", 1000000);
        worth(title, "9999*9999*9999*9999", 1000000);
        worth(title, "1000*1000+1-1", 999999);
        worth(title, "1000*1000-(0-1)-1", 999999);
        worth(title, "9999*9999/1000", 1000);
        worth(title, "0-999*1001", -999999);
        worth(title, "0-999*1001-1", -1000000);
        worth(title, "0-999*1001-2", -1000000);
        worth(title, "0-1000*1000-1+1", -999999);
        worth(title, "0-1000*1000+(0-1)+1", -999999);
        worth(title, "(0-1000)*1000", -1000000);
        worth(title, "(0-1000)*1001", -1000000);
        worth(title, "(0-9999)*9999*9999", -1000000);
        worth(title, "(0-9999)*9999*(0-9999)", 1000000);
        worth(title, "max(9999*9999,1)+min(1,2)", 1000000);
    }

    private static void fromTheLeft() {
        String title = "All from the left on";
        worth(title, "9-5-3", 1);
        worth(title, "9-5+3", 7);
        worth(title, "100/10/5", 2);
        worth(title, "7/2*2", 6);
        worth(title, "2*7/2", 7);
        worth(title, "1+2*3-8/4", 5);
        worth(title, "(1+2)*3", 9);
    }

    private static void withoutSums() {
        Check c = new Check("Without: fades is minds - 1, plays is all, worth is minds");
        c.station(SONG + "asker a wants s dies 0 minds 1;asker b wants s dies 0 minds 99;asker d wants s dies 0 minds 0;");
        c.due("worth(0)", c.x.worth(0), 1);
        c.due("worth(1)", c.x.worth(1), 99);
        c.due("worth(2)", c.x.worth(2), 0);
        c.due("has(8)", c.x.has(8), 2);
        c.x.days(1);
        c.due("asker(0, 2)", c.x.asker(0, 2), 0);
        c.due("asker(1, 2)", c.x.asker(1, 2), 98);
        c.due("asker(2, 2)", c.x.asker(2, 2), 0);
        // what one station told is gone with the next
        c.station(ASKER + "fades 9;plays not all;worth 7;");
        c.due("worth(0), told", c.x.worth(0), 7);
        c.due("has(8), told", c.x.has(8), 0);
        c.station(ASKER);
        c.due("worth(0), not told", c.x.worth(0), 6);
        c.due("has(8), not told", c.x.has(8), 1);
        c.x.days(1);
        c.due("asker(0, 2), not told", c.x.asker(0, 2), 5);
    }

    // ---- I, NAMES and blanks

    /** Where a NAME is asked: the text ahead of it, behind it. */
    private static final String[][] PLACES = {
        {HOUR + "song ", " long 1 style 1;"},
        {SONG + "asker ", " wants s dies 1 minds 1;"},
        {HOUR + "ear ", " taste 1;"}};

    private static void sixLetters() {
        String title = "NAMES: 1 to 6 letters; a 7th letter at itself";
        for (String[] row : PLACES) {
            good(title, row[0] + "a" + row[1], row[0] + "z" + row[1], row[0] + "zzzzzz" + row[1], row[0] + "azbycx" + row[1]);
            faulty(title, 1, row[0] + "zzzzzz^z" + row[1], row[0] + "abcdef^ghijklmnop" + row[1], row[0] + "abcdef^g", row[0] + "number^s" + row[1],
                    row[0] + "^" + row[1].trim(), row[0] + "^1" + row[1], row[0] + "^;", row[0] + "^A" + row[1], row[0] + "a^B" + row[1], row[0] + "^");
        }
        good(title, HOUR + "song aaaaaa long 1 style 1;asker a wants aaaaaa dies 1 minds 1;");
        faulty(title, 1, HOUR + "song aaaaaa long 1 style 1;asker a wants aaaaaa^a dies 1 minds 1;", SONG + "asker a wants ^;", SONG + "asker a wants ^9;");
    }

    private static void ownWords() {
        String title = "no OWN WORD";
        for (String word : OWN_WORDS.split(" ")) {
            for (String[] row : PLACES) {
                faulty(title, 1, row[0] + "^" + word + row[1]);
            }
            faulty(title, 1, SONG + "asker a wants ^" + word + " dies 1 minds 1;");
            String other = word.length() < 6 ? word + "x" : word.substring(0, 5);
            good(title, HOUR + "song " + other + " long 1 style 1;");
        }
        for (String word : "first last often total most least".split(" ")) {
            for (String[] row : PLACES) {
                good(title, row[0] + word + row[1]);
            }
        }
    }

    private static void unlikeNames() {
        String title = "unlike ones (of all sorts); 3 a NAME to be given that is there already, at it";
        String all = SONG + "asker a wants s dies 0 minds 1;ear e taste 1;";
        for (String kind : new String[] {"song", "asker", "ear"}) {
            faulty(title, 3, all + kind + " ^s", all + kind + " ^a long 1 style 1;", all + kind + " ^e wants s", all + kind + "\n\n^e;");
        }
        good(title, all + "song ss long 1 style 1;song aa long 1 style 1;asker ee wants ss dies 0 minds 1;ear sa taste 1;");
        good(title, HOUR + "song abcdef long 1 style 1;song abcdee long 1 style 1;song bbcdef long 1 style 1;song abcde long 1 style 1;");
        faulty(title, 3, HOUR + "song abcdef long 1 style 1;song ^abcdef long 1 style 1;");
    }

    private static void namesAhead() {
        String title = "told ahead of where they are asked; 3 one that is none of a SONG, at it";
        faulty(title, 3, HOUR + "asker a wants ^s dies 0 minds 1;song s long 1 style 1;", SONG + "asker a wants ^a dies 0 minds 1;",
                SONG + "asker b wants s dies 0 minds 1;asker a wants ^b", SONG + "ear e taste 1;asker a wants ^e", SONG + "asker a wants ^ss",
                SONG + "asker a wants ^x;", SONG + "asker a wants ^t dies 100");
        good(title, SONG + "asker a wants s dies 0 minds 1;song t long 1 style 1;asker b wants t dies 0 minds 1;");
    }

    private static void blanks() {
        String title = "Blanks (10, 32) are where one likes";
        good(title, "hour 9;", " hour 9 ; ", "\nhour\n9\n;\n", "hour   \n \n 9;\n\n\n");
        good(title, HOUR + "plays[all]and[1<2]or not(1)>2;worth(1)*min(1,2)+max(3,4);", HOUR + " plays [ all ] and [ 1 < 2 ] or not ( 1 ) > 2 ; "
                + "worth ( 1 ) * min ( 1 , 2 ) + max\n(3 ,4 )\n; ");
        for (int b = 0; b < 256; b++) {
            // the mark of the place can't be tried, and letters and digits belong to the words and numbers beside them
            if (b != 10 && b != 32 && b != '^') {
                String sign = "" + (char) b;
                boolean letter = b >= 'a' && b <= 'z';
                boolean digit = b >= '0' && b <= '9';
                faulty(title, 1, "hour 9;^" + sign + "toll 1;", letter ? "^hour" + sign + "9;" : "hour^" + sign + "9;");
                if (!digit && b != ';') {
                    faulty(title, 1, "hour 9^" + sign + ";");
                }
            }
        }
    }

    private static void sideBySide() {
        String title = "words and numbers side by side need one";
        faulty(title, 1, "hour^9;", "hour 9;song s^1 long 1 style 1;", "hour 9;song s long^1 style 1;", "hour 9;song s long 1^style 1;",
                "hour 9;hush^1;", "hour 9;ear e taste 1^x;", "hour 9;worth minds^1;", "hour 9;worth 1^minds;", "hour 9;plays 1<2^or all;",
                "hour 9;plays 1<2^and all;", "hour 9;plays all^1;", "hour 9;worth 1+1^min(1,2);");
        faulty(title, 1, "^hourx 9;", "hour 9;^songs long 1 style 1;", "hour 9;song slong ^1 style 1;", "hour 9;plays ^notall;",
                "hour 9;plays all ^orall;", "hour 9;worth ^mindsage;");
        good(title, "hour 9;worth 1+minds*2;plays minds>1 or all;");
    }

    // ---- I, FAULTS

    private static void firstFault() {
        String title = "FAULTS, the first along the text";
        faulty(title, 2, "hour ^0;song hour long 1 style 1;", "hour ^61;x", "hour ^61x", "hour 9;song s long ^0 style 99;", "hour 9;toll ^101");
        faulty(title, 1, "hour 9;song ^hour long 0;", "hour 9;^x;hour 0;", "hour 9;worth ^;worth 1;worth 1;", "hour 9;worth ^all;song s long 0 style 1;");
        faulty(title, 3, SONG + "song ^s long 0 style 1;", SONG + "song ^s x", SONG + "asker ^s wants t dies 100 minds 100;", SONG + "asker a wants ^t x");
        faulty(title, 4, "hour 9;worth ((((((^((((", "hour 9;worth ((((((^(all;", "hour 9;plays not not not not not not ^not;");
        faulty(title, 5, "hour 9;plays all;^plays x;x;", "hour 9;worth 1;^worth ((((((((");
        faulty(title, 1, "hour 9;worth (((((^;((((", "hour 9;plays not not ^;");
    }

    private static void unknownWords() {
        String title = "words and numbers whole, at their first byte";
        faulty(title, 1, "^hou 9;", "^hours 9;", "^hourhour 9;", "hour 9;^tol 1;", "hour 9;^tolls 1;", "hour 9;^dies 1;", "hour 9;^abcdefgh 1;",
                "hour 9 ^12345;", "hour 9 ^toll;", "hour 9;toll 1 ^toll 2;", "hour 9;worth ^mind;", "hour 9;worth ^mindss;", "hour 9;worth ^x;",
                "hour 9;worth ^agesinceplayed;", "hour 9;plays ^nots all;", "hour 9;plays all ^ands all;", "hour 9;plays all ^12345;", "hour 9;worth ^first;",
                "hour 9;^12345;", "hour 9;song s ^12345;", "hour 9;song ^12345;", "hour 9;song s ^longs 1;", "^12345;");
    }

    private static void wantingWords() {
        String title = "1 the first byte with which no such text goes on";
        faulty(title, 1, "^9;", "hour ^;", HOUR + "song s ^1 style 1;", HOUR + "song s long 1 ^1;", HOUR + "song s ^style 1;", HOUR + "song s long 1^;",
                SONG + "asker a ^s dies 1 minds 1;", SONG + "asker a wants s ^1 minds 1;", SONG + "asker a wants s dies 1 ^1;",
                SONG + "asker a wants s ^minds 1;", SONG + "asker a wants s dies 1^;", HOUR + "ear e ^1;", HOUR + "ear e ^;", HOUR + "^;", HOUR + "toll 1;^;",
                HOUR + "plays all ^plays all;", HOUR + "plays 1^;", HOUR + "plays 1+2 ^and all;", HOUR + "plays 1<2^<3;", HOUR + "plays [1^];",
                HOUR + "plays [all^);", HOUR + "plays all^];", HOUR + "plays (^all);", HOUR + "worth 1^);", HOUR + "worth 1^,2;",
                HOUR + "worth min ^1,2;", HOUR + "worth min(1 ^2);", HOUR + "worth min(1^);", HOUR + "worth min(1,2^,3);", HOUR + "worth (1^,2);",
                HOUR + "worth 1+^+1;", HOUR + "worth 1*^/1;", HOUR + "worth ^*1;", HOUR + "worth 1^=1;", HOUR + "plays 1=^=1;", HOUR + "plays not ^and all;");
    }

    /** The text may end where | stands in no case; then the FAULT is at its length. */
    private static void endsTooSoon() {
        String title = "at the text's length, if it ends too soon";
        String text = "hour| |9| |;song| |s| |long| 1| style| 1|;asker| a| wants| s| dies| 0| minds| 1|;ear| e| taste| 1|;hush| 1|;toll| 1|;"
                + "fades| minds|-|1|*|(|2|+|min|(|1|,|2|)|)|/| |3|;plays| not| [| all| and| 1|<| 2|]| or| minds|=|7|\n|;worth| max|(|long|,|style|)|;";
        for (int cut = text.indexOf('|'); cut >= 0; cut = text.indexOf('|', cut + 1)) {
            faulty(title, 1, text.substring(0, cut).replace("|", "") + "^");
        }
        good(title, text.replace("|", ""));
        faulty(title, 1, "^", " ^", "\n\n ^");
    }

    private static void sixOpen() {
        String title = "4 the 7th of ( [ not that is open at once (not until its FACT ends), at it";
        good(title, HOUR + "worth ((((((1))))))+((((((1))))));", HOUR + "plays [[[[[[all]]]]]]and[[[[[[all]]]]]];",
                HOUR + "plays not not not not not not all or not not not not not not all and not not not not not not 1<2;",
                HOUR + "worth min(min(min(min(min(min(1,2),2),2),2),2),2);", HOUR + "worth max(1,max(1,max(1,max(1,max(1,max(1,2))))));",
                HOUR + "plays not[not[not(1)<2]and not(1)<(2)and not[all]];", HOUR + "fades ((((((minds))))))-1;");
        faulty(title, 4, HOUR + "worth ((((((^(1)))))));", HOUR + "plays [[[[[[^[all]]]]]]];", HOUR + "plays not not not not not not ^not all;",
                HOUR + "worth min(min(min(min(min(min(min^(", HOUR + "worth max(1,max(1,max(1,max(1,max(1,max(1,max^(1", HOUR + "plays not[not[not(min^(",
                HOUR + "plays not not not not not not 1<^(2);", HOUR + "plays not not not not not not ^(1)<2;", HOUR + "plays not not not not not not ^[all];",
                HOUR + "plays not not not not[not 1<2 and not ^[", HOUR + "plays [[[[[[1<^(2)]]]]]];", HOUR + "plays [[[[[[^not all",
                HOUR + "plays not[not[not[all and ^not all]]];", HOUR + "plays not not not not not[^not 1<2",
                HOUR + "fades ((((((minds))))))-((((((^(", HOUR + "worth ((((((1)+(1)-(1)*(^(");
        good(title, HOUR + "plays not not not not[not 1<2 and not all]and not not not not not not 1<2;", HOUR + "worth ((((((1)+(1)-(1)*(1))))));");
    }

    // ---- IV, QUESTIONS

    private static void questionForms() {
        Check c = new Check("first TEST, last TEST, often TEST, total SUM, most SUM, least SUM");
        c.station(SONG + "asker a wants s dies 0 minds 0;asker b wants s dies 0 minds 99;asker d wants s dies 99 minds 50;");
        c.asks("first all", 0);
        c.asks("last all", 2);
        c.asks("often all", 3);
        c.asks("first not all", NONE);
        c.asks("last not all", NONE);
        c.asks("often not all", 0);
        c.asks("first minds=0", 0);
        c.asks("last minds=0", 0);
        c.asks("first minds=50", 2);
        c.asks("last minds=50", 2);
        c.asks("most minds", 99);
        c.asks("least minds", 0);
        c.asks("most 0-minds", 0);
        c.asks("least 0-minds", -99);
        c.asks("most 0-minds-1", -1);
        c.asks("least minds+1", 1);
        c.asks("total minds", 149);
        c.asks("total 0-minds", -149);
        // the answer is the sum of all, the 10 to the 6 bounds each SUM alone
        c.asks("total 1000*1000", 3000000);
        c.asks("total 0-1000*1000-1", -3000000);
        c.asks("most 1000*1000+minds", 1000000);
        c.asks("least 0-1000*1000-minds", -1000000);
    }

    private static void questionsWithoutAskers() {
        Check c = new Check("0 without ASKERS; NONE of first, last, when its TEST holds for none");
        c.station(HOUR);
        c.asks("most 7", 0);
        c.asks("most 0-7", 0);
        c.asks("least 7", 0);
        c.asks("least 0-7", 0);
        c.asks("total 7", 0);
        c.asks("often all", 0);
        c.asks("first all", NONE);
        c.asks("last all", NONE);
    }

    private static void questionParts() {
        Check c = new Check("age 0 while he is not dead; 1 if he is not dead, ... else 0; 1 if he wants the SONG of that number, else 0");
        c.station("hour 9;song s long 4 style 7;song t long 9 style 2;asker a wants s dies 0 minds 6;asker b wants t dies 2 minds 7;asker d wants s dies 3 minds 8;");
        c.x.days(2);
        c.asks("total age*(number+1)", 2);
        c.asks("first age=0", 1);
        c.asks("total alive*(number+1)", 3);
        // b (7 by 9 minutes) against a (4 by 4): b alone is on
        c.asks("total on*(number+1)", 2);
        c.asks("total wants 0*(number+1)", 1 + 3);
        c.asks("total wants 1*(number+1)", 2);
        c.asks("total wants 2", 0);
        c.asks("total wants (0-1)", 0);
        c.asks("total wants 9999", 0);
        c.asks("total since", 1 + 99 + 99);
        c.asks("most number", 2);
    }

    private static void questionFaults() {
        Check c = new Check("Its FAULTS: 1 as in I (an unknown word at its first byte; what stands behind it, too)");
        c.station(ASKER);
        String[] marked = {"^", " \n^", "^all", "^minds", "^firsts all", "^firs all", "^7", "^(", "^hour 9;", "first^", "first ^", "first ^;", "first minds^2", "first minds^", "first all ^all", "first all^;", "total 1^;", "total 1 ^1", "total 1^)", "total ^all",
            "total 1^<2", "total 1+^", "total ^xyz", "total ^abcdefghi", "total ^s", "total ^worth", "total 1234^5", "total ^hour", "most ^", "least ^not all",
            "often wants 1^", "total wants ^", "total wants ^all", "total wants ^x", "total min(1^)", "total^1", "total 1^x", "total wants^1"};
        for (String text : marked) {
            new Check("a question").station(ASKER).asksFaulty(1, text);
        }
        c.asks("first[all]", 0);
        c.asks("total(1)", 1);
    }

    private static void sixOpenInQuestions() {
        String title = "4 the 7th of ( [ not wants that is open at once (not until its FACT, wants until its PART ends), at it";
        Check c = new Check(title);
        c.station(ASKER);
        c.asks("total ((((((7))))))", 7);
        c.asks("often [[[[[[all]]]]]]", 1);
        c.asks("often not not not not not not all", 1);
        // his SONG is 0: wants 5 is 0, wants of that 1, and so on, the sixth 1
        c.asks("total wants wants wants wants wants wants 5+wants wants wants wants wants wants 5", 2);
        c.asks("total wants(wants min(wants 1,wants(0)))", 0);
        c.asksFaulty(4, "total ((((((^(7)))))))");
        c.asksFaulty(4, "often [[[[[[^[all]]]]]]]");
        c.asksFaulty(4, "often not not not not not not ^not all");
        c.asksFaulty(4, "total wants wants wants wants wants wants ^wants 5");
        c.asksFaulty(4, "total wants wants wants wants wants wants ^(5)");
        c.asksFaulty(4, "total wants wants wants wants wants wants min^(5,5)");
        c.asksFaulty(4, "total ((((((^wants 5))))))");
        c.asksFaulty(4, "often not[not[not wants ^wants 1=1]]");
        c.asks("often not not not not not wants 5*wants 5=wants 0 and not not not not not wants 0=0", 1);
    }
}
