/** Promises 1 to 8 and 34: the tape, stations and their FAULTS, what they tell. */
public final class StationTest {
    private static final int NONE = GraveRequest.NONE;
    private static final String SONGS = "hour 9;song s long 1 style 1;";

    public static void main(String[] args) {
        newObject();
        feed();
        end();
        stationAnew();
        stationText();
        faultsOfSyntax();
        faultsOfNumbers();
        faultsOfNames();
        faultsOfOpen();
        faultsOfMany();
        fault();
        has();
        letter();
        song();
        status();
        Check.end("StationTest");
    }

    private static void newObject() {
        Check c = new Check("promise 1");
        for (int what = 0; what < 12; what++) {
            c.due("has(" + what + ")", c.x.has(what), 0);
        }
        for (int what = 0; what < 6; what++) {
            c.due("status(" + what + ")", c.x.status(what), 0);
        }
        c.due("fault(0)", c.x.fault(0), 0);
        c.due("fault(1)", c.x.fault(1), NONE);
        c.due("best(0)", c.x.best(0), NONE);
        c.due("shared()", c.x.shared(), 0);
        c.due("heard(NONE)", c.x.heard(NONE), 0);
        c.due("worth(0)", c.x.worth(0), GraveRequest.NOTHING);
        c.due("end(1)", c.x.end(1), false);
        c.due("image()", c.x.image(), 5);
    }

    private static void feed() {
        Check c = new Check("promise 2");
        // "hour" " 9;h" "ush " "7;  " "    ": the highest byte of each number first
        c.due("feed", c.x.feed(0x686f7572, 0x20393b68, 0x75736820, 0x373b2020, 0x20202020), 20);
        c.due("station()", c.x.station(), 2);
        c.due("has(0)", c.x.has(0), 9);
        c.due("has(5)", c.x.has(5), 7);
        for (int i = 1; i <= 80; i++) {
            c.due("feed", c.x.feed(1, -1, Integer.MAX_VALUE, Integer.MIN_VALUE, 0), 20 * i);
        }
        c.due("feed", c.x.feed(0, 0, 0, 0, 0), NONE);
        c.due("status(0)", c.x.status(0), 1);
        c.due("end", c.x.end(1581), true);
        c.due("feed", c.x.feed(0, 0, 0, 0, 0), NONE);
        c.due("end", c.x.end(1580), true);
        c.due("feed", c.x.feed(0, 0, 0, 0, 0), 1600);
        c.due("status(0)", c.x.status(0), 2);
        c.station("hour 1;");
        // bytes above 127 count 128 .. 255
        c.bytes(200, 0, 0);
        c.due("see()", c.x.see(), NONE);
    }

    private static void end() {
        Check c = new Check("promise 3");
        c.due("end", c.x.end(0), true);
        c.due("end", c.x.end(1), false);
        c.due("end", c.x.end(-1), false);
        c.due("end", c.x.end(Integer.MIN_VALUE), false);
        c.due("status(0)", c.x.status(0), 3);
        c.x.feed(0, 0, 0, 0, 0);
        c.due("end", c.x.end(21), false);
        c.due("end", c.x.end(20), true);
        c.due("end", c.x.end(7), true);
        c.due("end", c.x.end(8), false);
        c.due("feed", c.x.feed(0, 0, 0, 0, 0), 27);
        c.due("status(0)", c.x.status(0), 5);
    }

    private static void stationAnew() {
        Check c = new Check("promise 4");
        c.station(SONGS + "asker a wants s dies 0 minds 9;asker b wants s dies 99 minds 9;hush 40;toll 100;");
        c.due("days", c.x.days(3), 3);
        c.sees(1, 0, 0, 1);
        c.due("seed", c.x.seed(7), true);
        c.faulty(1, "hour 5;^x;");
        c.due("has(0)", c.x.has(0), 9);
        c.due("has(4)", c.x.has(4), 3);
        c.due("has(5)", c.x.has(5), 16);
        c.due("has(9)", c.x.has(9), 3);
        c.due("has(10)", c.x.has(10), 1);
        c.due("has(11)", c.x.has(11), 1);
        c.station("hour 8;song u long 2 style 3;asker d wants u dies 1 minds 4;asker e wants u dies 1 minds 4;"
                + "asker f wants u dies 1 minds 4;toll 50;");
        c.due("has(0)", c.x.has(0), 8);
        c.due("has(4)", c.x.has(4), 0);
        c.due("has(5)", c.x.has(5), 0);
        c.due("has(9)", c.x.has(9), 0);
        c.due("has(10)", c.x.has(10), 0);
        c.due("has(11)", c.x.has(11), 0);
        c.due("asker", c.x.asker(0, 3), 0);
        c.due("asker", c.x.asker(0, 4), 99);
        // the seed is still 7: x = 1103515245 * 7 + 12345 mod 2^31 = 1282168116, 20033876 mod 100 = 76: none dies;
        // by a seed of 1 it would be 1103527590, 17242618 mod 100 = 18: one would
        c.due("chance", c.x.chance(1), 0);
        c.due("asker", c.x.asker(1, 1), 1);
        c.due("status(1)", c.x.status(1), 1);
    }

    private static void stationText() {
        Check c = new Check("terms I");
        c.station("hour 1;");
        c.station("hour 60;");
        c.station("hour 0060;");
        c.station("\n hour\n9\n;\n");
        c.station("hour 9 ; hush 999; toll 100; hush 0;toll 0;");
        c.due("has(5)", c.x.has(5), 0);
        c.station("hour 9;hush 5;hush 6;");
        c.due("has(5)", c.x.has(5), 6);
        c.station("hour 9;song first long 60 style 9;ear total taste 0;asker most wants first dies 99 minds 99;");
        c.station("hour 9;song abcdef long 1 style 0;song abcdeg long 1 style 0;");
        c.station("hour 9;worth(minds)+2*3-min(1,max(2,3));plays[all]and not[1<2]or minds=3;fades 9999;");
        c.station("hour 9;ear e taste 3;worth long*style;plays long>style;fades minds/age+since-played*day;");
        c.station("hour 9;" + "hush 1;".repeat(79));
    }

    private static void faultsOfSyntax() {
        Check c = new Check("FAULT 1");
        c.faulty(1, "^");
        c.faulty(1, " \n ^");
        c.faulty(1, "^;");
        c.faulty(1, "^x;");
        c.faulty(1, "^ho");
        c.faulty(1, "^hours 9;");
        c.faulty(1, "^Hour 9;");
        c.faulty(1, "^9 hour;");
        c.faulty(1, "^song a long 1 style 1;");
        c.faulty(1, "hour^");
        c.faulty(1, "hour ^");
        c.faulty(1, "hour^9;");
        c.faulty(1, "hour^\t9;");
        c.faulty(1, "hour ^;");
        c.faulty(1, "hour ^nine;");
        c.faulty(1, "hour 9^");
        c.faulty(1, "hour 9 \n^");
        c.faulty(1, "hour 9 ^8;");
        c.faulty(1, "hour 9 ^80000;");
        c.faulty(1, "hour 9^x;");
        c.faulty(1, "hour 0009^9;");
        c.faulty(1, "hour 9999^9");
        c.faulty(1, "hour 9;^;");
        c.faulty(1, "hour 9;^hour 9;");
        c.faulty(1, "hour 9;^taste 9;");
        c.faulty(1, "hour 9;^fade minds;");
        c.faulty(1, "hour 9;^" + (char) 0);
        c.faulty(1, "hour 9;^" + (char) 233);
        c.faulty(1, "hour 9;hush 12^,");
        c.faulty(1, "hour 9;hush ^-1;");
        c.faulty(1, "hour 9;song a long 5^style 3;");
        c.faulty(1, "hour 9;song a ^lon 5;");
        c.faulty(1, "hour 9;song a ^longer 5;");
        c.faulty(1, "hour 9;song a long 5 ^;");
        c.faulty(1, SONGS + "asker a wants s dies 0^");
        c.faulty(1, SONGS + "asker a wants s ^minds 0 dies 0;");
        c.faulty(1, "hour 9;ear e taste 1 ^2;");
        c.faulty(1, "hour 9;fades ^;");
        c.faulty(1, "hour 9;fades ^long;");
        c.faulty(1, "hour 9;fades minds+^style;");
        c.faulty(1, "hour 9;fades ^number;");
        c.faulty(1, "hour 9;fades ^all;");
        c.faulty(1, "hour 9;fades 1 ^< 2;");
        c.faulty(1, "hour 9;worth ^alive;");
        c.faulty(1, "hour 9;worth ^on;");
        c.faulty(1, "hour 9;worth ^wants 1;");
        c.faulty(1, "hour 9;worth 1234^5;");
        c.faulty(1, "hour 9;worth 1+^;");
        c.faulty(1, "hour 9;worth 1 ^1;");
        c.faulty(1, "hour 9;worth minds^2;");
        c.faulty(1, "hour 9;worth ^-1;");
        c.faulty(1, "hour 9;worth (1^;");
        c.faulty(1, "hour 9;worth (1^];");
        c.faulty(1, "hour 9;worth (^)");
        c.faulty(1, "hour 9;worth ^[1];");
        c.faulty(1, "hour 9;worth min ^;");
        c.faulty(1, "hour 9;worth min(1^);");
        c.faulty(1, "hour 9;worth max(1,2^,3);");
        c.faulty(1, "hour 9;worth ^mind;");
        c.faulty(1, "hour 9;plays ^;");
        c.faulty(1, "hour 9;plays minds^;");
        c.faulty(1, "hour 9;plays (minds^>1)");
        c.faulty(1, "hour 9;plays 1<2^<3;");
        c.faulty(1, "hour 9;plays 1<^=2;");
        c.faulty(1, "hour 9;plays all^+1;");
        c.faulty(1, "hour 9;plays all ^all;");
        c.faulty(1, "hour 9;plays all and ^;");
        c.faulty(1, "hour 9;plays not ^;");
        c.faulty(1, "hour 9;plays ^notall;");
        c.faulty(1, "hour 9;plays [all^;");
        c.faulty(1, "hour 9;plays 1<2^or all;");
        c.faulty(1, "hour 9;plays all ^xor all;");
    }

    private static void faultsOfNumbers() {
        Check c = new Check("FAULT 2");
        c.faulty(2, "hour ^0");
        c.faulty(2, "hour ^61;");
        c.faulty(2, "hour ^0061x;");
        c.faulty(2, "hour 9;song a long ^0 style 1;");
        c.faulty(2, "hour 9;song a long ^61 style 1;");
        c.faulty(2, "hour 9;song a long 60 style ^10;");
        c.faulty(2, SONGS + "asker a wants s dies ^100 minds 1;");
        c.faulty(2, SONGS + "asker a wants s dies 99 minds ^100;");
        c.faulty(2, "hour 9;ear e taste ^10;");
        c.faulty(2, "hour 9;hush ^1000;");
        c.faulty(2, "hour 9;toll ^101;");
    }

    private static void faultsOfNames() {
        Check c = new Check("NAMES");
        String[] own = ("hour song long style asker wants dies minds ear taste fades plays worth hush toll age since "
                + "played day number alive on or and not all min max").split(" ");
        for (String word : own) {
            c.faulty(1, "hour 9;song ^" + word + " long 1 style 1;");
            c.faulty(1, SONGS + "asker ^" + word + " wants s dies 0 minds 1;");
            c.faulty(1, SONGS + "asker a wants ^" + word + " dies 0 minds 1;");
            c.faulty(1, "hour 9;ear ^" + word + " taste 1;");
        }
        for (String word : "first last often total most least hours a zzzzzz".split(" ")) {
            c.station("hour 9;song " + word + " long 1 style 1;");
        }
        c.faulty(1, "hour 9;song ^");
        c.faulty(1, "hour 9;song ^1");
        c.faulty(1, "hour 9;song a^1 long 1 style 1;");
        c.faulty(1, "hour 9;song abcdef^g long 1 style 1;");
        c.faulty(1, "hour 9;song played^s long 1 style 1;");
        c.faulty(1, "hour 9;song ab^C");
        c.faulty(1, SONGS + "asker a wants ssssss^s dies 0 minds 1;");
        c.faulty(3, SONGS + "song ^s");
        c.faulty(3, SONGS + "asker ^s");
        c.faulty(3, SONGS + "ear ^s");
        c.faulty(3, SONGS + "ear e taste 1;song ^e long 1 style 1;");
        c.faulty(3, SONGS + "ear e taste 1;ear ^e taste 1;");
        c.faulty(3, SONGS + "asker a wants s dies 0 minds 1;ear ^a taste 1;");
        c.faulty(3, SONGS + "asker a wants s dies 0 minds 1;asker ^a wants s dies 0 minds 1;");
        c.faulty(3, SONGS + "asker a wants ^t dies 0 minds 1;song t long 1 style 1;");
        c.faulty(3, SONGS + "asker a wants ^a dies 0 minds 1;");
        c.faulty(3, SONGS + "ear e taste 1;asker a wants ^e dies 0 minds 1;");
        c.faulty(3, "hour 9;asker a wants ^s");
        c.station(SONGS + "asker ss wants s dies 0 minds 1;ear sss taste 1;");
    }

    private static void faultsOfOpen() {
        Check c = new Check("FAULT 4");
        c.station("hour 9;worth ((((((1))))));");
        c.station("hour 9;plays [[[[[[all]]]]]];");
        c.station("hour 9;plays not not not not not not all and not not not not not not all or not[not[not(1)<2]];");
        c.station("hour 9;worth min(1,(((((2))))))+min((((((1))))),1)+(((((max(1,2))))));");
        c.faulty(4, "hour 9;worth min(1,(((((^(2");
        c.faulty(4, "hour 9;worth min((((((^(2");
        c.faulty(4, "hour 9;worth ((((((^(1)))))));");
        c.faulty(4, "hour 9;worth (((((min(^(1),1))))));");
        c.faulty(4, "hour 9;worth (((((1)+(2)+((^(");
        c.faulty(4, "hour 9;worth ((((((max^(1,2)))))));");
        c.faulty(1, "hour 9;worth ((((((max^1");
        c.faulty(4, "hour 9;plays [[[[[[^[all]]]]]]];");
        c.faulty(4, "hour 9;plays not not not not not not ^not all;");
        c.faulty(4, "hour 9;plays not[not[not(min^(");
        c.faulty(4, "hour 9;plays [not[not[not all and 1<2]and not (1)<(2) and not((^(");
        c.faulty(4, "hour 9;plays not[not[not[^not");
    }

    private static void faultsOfMany() {
        Check c = new Check("FAULT 5");
        StringBuilder songs = new StringBuilder("hour 9;");
        for (char s = 'a'; s < 'g'; s++) {
            songs.append("song s").append(s).append(" long 1 style 1;");
        }
        c.station(songs.toString());
        c.due("has(1)", c.x.has(1), 6);
        c.faulty(5, songs + "^song");
        StringBuilder askers = new StringBuilder(songs);
        for (char s = 'a'; s < 'i'; s++) {
            askers.append("asker a").append(s).append(" wants sf dies 1 minds 1;");
        }
        c.station(askers.toString());
        c.due("has(2)", c.x.has(2), 8);
        c.faulty(5, askers + " ^asker sa");
        StringBuilder ears = new StringBuilder(askers);
        for (char s = 'a'; s < 'f'; s++) {
            ears.append("ear e").append(s).append(" taste 1;");
        }
        c.station(ears.toString());
        c.due("has(3)", c.x.has(3), 5);
        c.faulty(5, ears + "\n^ear ea");
        c.faulty(5, "hour 9;fades minds;^fades minds;");
        c.faulty(5, "hour 9;plays all;^plays");
        c.faulty(5, "hour 9;worth 1;^worth 1;");
        String eighty = "hour 9;" + "hush 1;".repeat(79);
        c.faulty(5, eighty + "^hush 1;");
        c.faulty(5, eighty + " ^x");
        c.faulty(5, eighty + " \n^;");
        c.faulty(5, eighty + "^" + (char) 200);
        c.station(eighty + " \n");
        c.faulty(1, "hour 9;" + "hush 1;".repeat(78) + "hush 1^");
    }

    private static void fault() {
        Check c = new Check("promise 5");
        c.tape("often all");
        c.due("ask()", c.x.ask(), GraveRequest.NOTHING);
        c.due("fault(0)", c.x.fault(0), 0);
        c.faulty(2, "hour ^0");
        c.due("fault(2)", c.x.fault(2), NONE);
        c.due("fault(-1)", c.x.fault(-1), NONE);
        c.tape("often all");
        c.due("ask()", c.x.ask(), GraveRequest.NOTHING);
        c.due("fault(0), ask() having done nothing", c.x.fault(0), 2);
        c.due("fault(1), ask() having done nothing", c.x.fault(1), 5);
        c.station("hour 5;");
        c.asksFaulty(1, "often ^");
        c.asks("often all", 0);
        c.asksFaulty(1, "^frequent all");
        c.station("hour 5;");
    }

    private static void has() {
        Check c = new Check("promise 6");
        c.station("hour 10;song s long 3 style 1;song t long 4 style 1;asker a wants s dies 0 minds 5;"
                + "asker b wants s dies 0 minds 0;asker d wants t dies 2 minds 3;asker f wants t dies 50 minds 0;"
                + "asker g wants t dies 1 minds 1;ear e taste 4;plays minds<5 or day=0;hush 30;");
        long[] first = {10, 2, 5, 1, 0, 30, 2, 2, 1, 0, 0, 0};
        for (int what = 0; what < 12; what++) {
            c.due("has(" + what + ")", c.x.has(what), first[what]);
        }
        c.due("has(12)", c.x.has(12), NONE);
        c.due("has(-1)", c.x.has(-1), NONE);
        c.x.days(2);
        c.x.want(4, 0);
        c.sees(2, 0, 0, 0, 1, 1, 1);
        // day 0: a is played (3 of 10), 7 silent; day 1: a (4) and g (1) are (7), 3 silent, g is forgotten;
        // day 2: a, b, d, g are dead, b, f, g forgotten; a (3) and d (3) can be played
        long[] then = {10, 2, 5, 1, 2, 20, 4, 3, 2, 2, 2, 2};
        for (int what = 0; what < 12; what++) {
            c.due("has(" + what + ") later", c.x.has(what), then[what]);
        }
        c.x.days(3);
        // a and d have come to 0, too
        c.due("has(7), all", c.x.has(7), 5);
    }

    private static void letter() {
        Check c = new Check("promise 7");
        c.station("hour 10;song az long 3 style 1;song abcxyz long 3 style 1;asker m wants az dies 0 minds 5;ear qq taste 4;");
        int[][] rows = {{0, 0, 1, 26, 0, 0, 0, 0}, {0, 1, 1, 2, 3, 24, 25, 26}, {1, 0, 13, 0, 0, 0, 0, 0}, {2, 0, 17, 17, 0, 0, 0, 0}};
        for (int[] row : rows) {
            for (int k = 0; k < 6; k++) {
                c.due("letter(" + row[0] + ", " + row[1] + ", " + k + ")", c.x.letter(row[0], row[1], k), row[2 + k]);
            }
            c.due("letter, k -1", c.x.letter(row[0], row[1], -1), NONE);
            c.due("letter, k 6", c.x.letter(row[0], row[1], 6), NONE);
        }
        c.due("letter", c.x.letter(0, 2, 0), NONE);
        c.due("letter", c.x.letter(0, -1, 0), NONE);
        c.due("letter", c.x.letter(1, 1, 0), NONE);
        c.due("letter", c.x.letter(2, 1, 0), NONE);
        c.due("letter", c.x.letter(3, 0, 0), NONE);
        c.due("letter", c.x.letter(-1, 0, 0), NONE);
    }

    private static void song() {
        Check c = new Check("promise 8");
        c.station("hour 10;song a long 60 style 9;song b long 1 style 0;");
        c.due("song(0, 0)", c.x.song(0, 0), 60);
        c.due("song(0, 1)", c.x.song(0, 1), 9);
        c.due("song(1, 0)", c.x.song(1, 0), 1);
        c.due("song(1, 1)", c.x.song(1, 1), 0);
        c.due("song(1, 2)", c.x.song(1, 2), NONE);
        c.due("song(1, -1)", c.x.song(1, -1), NONE);
        c.due("song(2, 0)", c.x.song(2, 0), NONE);
        c.due("song(-1, 0)", c.x.song(-1, 0), NONE);
    }

    private static void status() {
        Check c = new Check("promise 34");
        c.x.end(1);
        c.x.end(-1);
        c.x.station();
        c.x.see();
        c.x.see();
        c.x.want(0, 0);
        c.x.mourn(0, 1);
        c.x.mourn(0, 1);
        c.x.mourn(0, 1);
        c.x.days(1);
        c.x.chance(1);
        c.x.days(0);
        c.x.chance(0);
        c.x.days(0);
        for (int i = 0; i < 6; i++) {
            c.x.undo();
        }
        c.x.seed(-1);
        c.x.on();
        c.x.ask();
        int[] due = {2, 3, 4, 5, 6, 2};
        for (int what = 0; what < 6; what++) {
            c.due("status(" + what + ")", c.x.status(what), due[what]);
        }
        c.station("hour 9;");
        for (int what = 0; what < 6; what++) {
            c.due("status(" + what + ") behind a station", c.x.status(what), due[what]);
        }
        c.due("status(6)", c.x.status(6), NONE);
        c.due("status(-1)", c.x.status(-1), NONE);
    }
}
