/** One object under test, what is put on its tape, and the count of wrong answers. */
final class Check {
    private static int wrong = 0;
    private static int asked = 0;
    private final String title;
    final GraveRequest x = new GraveRequest();

    Check(String title) {
        this.title = title;
    }

    static void end(String name) {
        System.out.println(name + ": " + asked + " answers, " + wrong + " not as due");
        if (wrong != 0) {
            System.exit(1);
        }
    }

    /** So many statements that differ by a letter, from a on. */
    static String many(String head, String tail, int count) {
        StringBuilder text = new StringBuilder();
        for (int i = 0; i < count; i++) {
            text.append(head).append((char) ('a' + i)).append(tail);
        }
        return text.toString();
    }

    void due(String call, long got, long want) {
        asked++;
        if (got != want) {
            wrong++;
            System.out.println(title + ": " + call + " answered " + got + ", due is " + want);
        }
    }

    void due(String call, boolean got, boolean want) {
        due(call, got ? 1 : 0, want ? 1 : 0);
    }

    /** The tape is just this text. */
    Check tape(String text) {
        x.end(0);
        String padded = text + " ".repeat((20 - text.length() % 20) % 20);
        for (int i = 0; i < padded.length(); i += 20) {
            int[] n = new int[5];
            for (int k = 0; k < 20; k++) {
                n[k / 4] = n[k / 4] << 8 | padded.charAt(i + k) & 255;
            }
            x.feed(n[0], n[1], n[2], n[3], n[4]);
        }
        x.end(text.length());
        return this;
    }

    Check bytes(int... bytes) {
        StringBuilder text = new StringBuilder();
        for (int b : bytes) {
            text.append((char) b);
        }
        return tape(text.toString());
    }

    /** A station that is without a FAULT. */
    Check station(String text) {
        int statements = 0;
        for (int i = 0; i < text.length(); i++) {
            statements += text.charAt(i) == ';' ? 1 : 0;
        }
        tape(text);
        due("station() of " + text, x.station(), statements);
        due("fault(0) of " + text, x.fault(0), 0);
        due("fault(1) of " + text, x.fault(1), GraveRequest.NONE);
        return this;
    }

    /** A station with a FAULT; ^ stands ahead of its place. */
    void faulty(int kind, String marked) {
        String text = marked.replace("^", "");
        int refused = x.status(1);
        tape(text);
        due("station() of " + marked, x.station(), GraveRequest.NONE);
        due("fault(0) of " + marked, x.fault(0), kind);
        due("fault(1) of " + marked, x.fault(1), marked.indexOf('^'));
        due("status(1) behind " + marked, x.status(1), refused + 1);
        due("the tape behind " + marked, x.end(1), false);
    }

    void asks(String text, long want) {
        tape(text);
        due("ask() of " + text, x.ask(), want);
        due("fault(0) of " + text, x.fault(0), 0);
        due("fault(1) of " + text, x.fault(1), GraveRequest.NONE);
    }

    void asksFaulty(int kind, String marked) {
        tape(marked.replace("^", ""));
        due("ask() of " + marked, x.ask(), GraveRequest.NOTHING);
        due("fault(0) of " + marked, x.fault(0), kind);
        due("fault(1) of " + marked, x.fault(1), marked.indexOf('^'));
        due("the tape behind " + marked, x.end(1), false);
    }

    void sees(int want, int... bytes) {
        bytes(bytes);
        due("see()", x.see(), want);
    }

    /** on() with these bytes and the last one that belongs to them. */
    void turnsOn(boolean want, int... bytes) {
        int check = 151;
        int[] all = new int[bytes.length + 1];
        for (int k = 0; k < bytes.length; k++) {
            check = (3 * check + bytes[k]) % 251;
            all[k] = bytes[k];
        }
        all[bytes.length] = check;
        bytes(all);
        due("on() of " + java.util.Arrays.toString(all), x.on(), want);
    }

    /** All that is told by calls without effect, but for what was refused; to hold against it when all must stay. */
    String all() {
        StringBuilder told = new StringBuilder("has");
        for (int what = 0; what < 12; what++) {
            told.append(' ').append(x.has(what));
        }
        for (int s = 0; s < x.has(1); s++) {
            told.append(" song ").append(x.letter(0, s, 0)).append(' ').append(x.song(s, 0)).append(' ').append(x.song(s, 1));
        }
        for (int a = 0; a < x.has(2); a++) {
            told.append(" asker ").append(x.letter(1, a, 0)).append(' ').append(x.worth(a));
            for (int what = 0; what < 6; what++) {
                told.append(' ').append(x.asker(a, what));
            }
        }
        for (int k = 0; k < x.has(9); k++) {
            told.append(" kept ").append(x.kept(k, 0)).append(' ').append(x.kept(k, 1)).append(' ').append(x.kept(k, 2));
        }
        return told.append(" best ").append(x.best(0)).append(" fits ").append(x.fits(0, 0)).append(' ').append(x.fits(0, 1)).toString();
    }

    void stays(String call, String before) {
        String behind = all();
        due(call + " leaves \"" + before + "\" as it was, not \"" + behind + "\"", behind.equals(before), true);
    }
}
