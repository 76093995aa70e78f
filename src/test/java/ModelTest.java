import java.util.ArrayList;
import java.util.List;
import java.util.Random;

/** Random runs of calls, answered by the program and by the model alike. */
public final class ModelTest {
    private static final int RUNS = 400;
    private static int wrong = 0;

    private final Random random;
    private final GraveRequest x = new GraveRequest();
    private final Model m = new Model();
    private final List<String> log = new ArrayList<>();

    private ModelTest(long seed) {
        random = new Random(seed);
    }

    public static void main(String[] args) {
        int runs = args.length > 0 ? Integer.parseInt(args[0]) : RUNS;
        int from = args.length > 1 ? Integer.parseInt(args[1]) : 0;
        for (int run = from; run < from + runs && wrong < 5; run++) {
            new ModelTest(run).run(run);
        }
        System.out.println(wrong == 0 ? runs + " random runs are as the model's" : wrong + " answers are not as the model's");
        if (wrong != 0) {
            System.exit(1);
        }
    }

    private boolean due(String call, long got, long want) {
        log.add(call + " = " + got);
        if (got == want) {
            return true;
        }
        wrong++;
        System.out.println("due is " + want + " at the end of: " + log);
        return false;
    }

    private static long bit(boolean b) {
        return b ? 1 : 0;
    }

    private int pick(int n) {
        return random.nextInt(n);
    }

    /** Mostly within bounds, sometimes just outside, seldom far. */
    private int near(int lo, int hi) {
        int r = pick(40);
        return r == 0 ? lo - 1 : r == 1 ? hi + 1 : r == 2 ? lo : r == 3 ? hi : r == 4 ? random.nextInt() : lo + pick(hi - lo + 1);
    }

    private boolean put(String text) {
        log.add("tape \"" + text.replace("\n", "\\n") + "\"");
        x.end(0);
        m.end(0);
        String padded = text + " ".repeat((20 - text.length() % 20) % 20);
        for (int i = 0; i + 20 <= padded.length(); i += 20) {
            int[] n = new int[5];
            for (int k = 0; k < 20; k++) {
                n[k / 4] = n[k / 4] << 8 | padded.charAt(i + k) & 255;
            }
            if (!due("feed", x.feed(n[0], n[1], n[2], n[3], n[4]), m.feed(n[0], n[1], n[2], n[3], n[4]))) {
                return false;
            }
        }
        return due("end", bit(x.end(text.length())), bit(m.end(text.length())));
    }

    private void run(int run) {
        log.add("run " + run);
        if (pick(10) == 0 && !someCalls(20)) {
            return;
        }
        int stations = 1 + pick(3);
        for (int i = 0; i < stations; i++) {
            String text = new Writer().station();
            text = pick(4) == 0 ? spoilt(text) : text;
            if (text.length() > 1600) {
                continue;
            }
            if (!put(text) || !due("station()", x.station(), m.station()) || !due("fault(0)", x.fault(0), m.fault(0))
                    || !due("fault(1)", x.fault(1), m.fault(1)) || !someCalls(60)) {
                return;
            }
        }
    }

    private String spoilt(String text) {
        StringBuilder b = new StringBuilder(text);
        String junk = "abz019;()[]<>=+-*/, \n#not wants minds 10000 hour";
        for (int i = 1 + pick(2); i > 0 && b.length() > 0; i--) {
            int at = pick(b.length());
            switch (pick(5)) {
                case 0: b.deleteCharAt(at); break;
                case 1: b.insert(at, junk.charAt(pick(junk.length()))); break;
                case 2: b.setCharAt(at, junk.charAt(pick(junk.length()))); break;
                case 3: b.setLength(at); break;
                default: b.setCharAt(at, (char) pick(256));
            }
        }
        return b.toString();
    }

    private boolean someCalls(int n) {
        for (int i = 0; i < n; i++) {
            if (!oneCall()) {
                return false;
            }
        }
        return allSeen();
    }

    /** All that can be looked at cheaply. */
    private boolean allSeen() {
        for (int i = -1; i <= 12; i++) {
            if (!due("has(" + i + ")", x.has(i), m.has(i)) || !due("status(" + i + ")", x.status(i), m.status(i))
                    || !due("worth(" + i + ")", x.worth(i), m.worth(i)) || !due("best(" + i + ")", x.best(i), m.best(i))) {
                return false;
            }
            for (int k = -1; k <= 6; k++) {
                if (!due("asker(" + i + "," + k + ")", x.asker(i, k), m.asker(i, k))
                        || !due("song(" + i + "," + k + ")", x.song(i, k), m.song(i, k))) {
                    return false;
                }
                for (int kind = -1; kind <= 3; kind++) {
                    if (!due("letter(" + kind + "," + i + "," + k + ")", x.letter(kind, i, k), m.letter(kind, i, k))) {
                        return false;
                    }
                }
            }
        }
        for (int k = -1; k <= 40; k++) {
            for (int what = -1; what <= 3; what++) {
                if (!due("kept(" + k + "," + what + ")", x.kept(k, what), m.kept(k, what))) {
                    return false;
                }
            }
        }
        return true;
    }

    private boolean oneCall() {
        int a = near(0, 7);
        int n;
        int what;
        switch (pick(30)) {
            case 0: n = near(0, 60); return due("later(" + n + ")", x.later(n), m.later(n));
            case 1: n = near(0, 60); return due("minded(" + a + "," + n + ")", x.minded(a, n), m.minded(a, n));
            case 2: return due("nothing()", x.nothing(), m.nothing());
            case 3: return due("hushed()", x.hushed(), m.hushed());
            case 4: return due("full()", x.full(), m.full());
            case 5: n = near(1, 30); what = near(0, 1); return due("fame(" + a + "," + n + "," + what + ")", x.fame(a, n, what), m.fame(a, n, what));
            case 6: return due("shared()", x.shared(), m.shared());
            case 7: n = near(-1, 4); return due("heard(" + n + ")", x.heard(n), m.heard(n));
            case 8:
            case 9: return seeing();
            case 10: what = near(0, 2); return pick(4) != 0 || due("fits(" + a + "," + what + ")", x.fits(a, what), m.fits(a, what));
            case 11: what = near(0, 1); return pick(4) != 0 || due("tells(" + a + "," + what + ")", x.tells(a, what), m.tells(a, what));
            case 12:
            case 13: n = near(0, 5); return due("want(" + a + "," + n + ")", bit(x.want(a, n)), bit(m.want(a, n)));
            case 14:
            case 15: n = near(1, 99); return due("mourn(" + a + "," + n + ")", x.mourn(a, n), m.mourn(a, n));
            case 16: n = near(1, pick(4) == 0 ? 100 : 9); return due("days(" + n + ")", x.days(n), m.days(n));
            case 17:
            case 18: n = near(1, pick(4) == 0 ? 100 : 9); return due("chance(" + n + ")", x.chance(n), m.chance(n));
            case 19:
            case 20: return due("undo()", bit(x.undo()), bit(m.undo()));
            case 21: n = near(0, Integer.MAX_VALUE - 1); return due("seed(" + n + ")", bit(x.seed(n)), bit(m.seed(n)));
            case 22: return imaging();
            case 23: return setting();
            case 24: n = near(0, 1); return due("fault(" + n + ")", x.fault(n), m.fault(n));
            case 25: n = near(0, 60); return due("end(" + n + ")", bit(x.end(n)), bit(m.end(n)));
            default: return asking();
        }
    }

    private boolean asking() {
        String text = new Writer().question();
        text = pick(5) == 0 ? spoilt(text) : text;
        return put(text) && due("ask()", x.ask(), m.ask()) && due("fault(0)", x.fault(0), m.fault(0)) && due("fault(1)", x.fault(1), m.fault(1));
    }

    private boolean seeing() {
        StringBuilder rows = new StringBuilder();
        int askers = Math.max(1, m.has(2));
        for (int i = 1 + pick(3); i > 0; i--) {
            int day = pick(3) == 0 ? pick(31) : pick(4);
            int asker = pick(askers);
            int on = m.told != null && pick(3) != 0 ? Math.max(0, m.later(day)) >> asker & 1 : pick(2);
            rows.append((char) day).append((char) asker).append((char) on);
        }
        if (pick(8) == 0) {
            rows.setCharAt(pick(rows.length()), (char) pick(34));
        }
        if (pick(12) == 0) {
            rows.setLength(pick(rows.length()));
        }
        if (pick(20) == 0) {
            rows.append(rows).append(rows).append(rows).append(rows).append(rows);
        }
        return put(rows.toString()) && due("see()", x.see(), m.see());
    }

    private boolean imaging() {
        if (!due("image()", x.image(), m.image())) {
            return false;
        }
        for (int k = -1; k < 71; k++) {
            if (!due("octet(" + k + ")", x.octet(k), m.octet(k))) {
                return false;
            }
        }
        return true;
    }

    /** An image of this station, changed in one place or not, its last byte mended or not. */
    private boolean setting() {
        m.image();
        x.image();
        List<Integer> bytes = new ArrayList<>(m.picture);
        int changes = pick(3);
        for (int i = 0; i < changes; i++) {
            int r = pick(6);
            if (r == 0) {
                int day = 950 + pick(52);
                bytes.set(0, day >> 8);
                bytes.set(1, day & 255);
            } else if (r < 4) {
                bytes.set(pick(bytes.size()), pick(5) == 0 ? pick(256) : pick(4));
            } else if (r == 4 && bytes.size() > 5) {
                int at = 4 + 8 * pick((bytes.size() - 5) / 8);
                bytes.set(at + 6, 3);
                bytes.set(at + 7, 228 + pick(6));
            }
        }
        if (pick(6) != 0) {
            int c = 151;
            for (int k = 0; k < bytes.size() - 1; k++) {
                c = (3 * c + bytes.get(k)) % 251;
            }
            bytes.set(bytes.size() - 1, c);
        }
        StringBuilder text = new StringBuilder();
        for (int b : bytes) {
            text.append((char) b);
        }
        if (pick(15) == 0) {
            text.append((char) 0);
        }
        return put(text.toString()) && due("on()", bit(x.on()), bit(m.on()));
    }

    /** Writes stations and questions that are mostly without a FAULT. */
    private final class Writer {
        private boolean asking;
        private boolean ofSongs;
        private int budget = 40;

        private String blank() {
            return pick(12) == 0 ? "\n " : " ";
        }

        private String station() {
            StringBuilder b = new StringBuilder();
            int songs = pick(9) == 0 ? 0 : 1 + pick(6);
            int askers = songs == 0 ? 0 : pick(9);
            int ears = pick(6);
            int hour = pick(4) == 0 ? 1 + pick(60) : 3 + pick(20);
            b.append("hour ").append(hour).append(";");
            for (int i = 0; i < songs; i++) {
                int minutes = pick(8) == 0 ? 1 + pick(60) : 1 + pick(Math.max(2, hour / 2));
                b.append("song s").append((char) ('a' + i)).append(" long ").append(Math.min(60, minutes)).append(" style ").append(pick(10)).append(";");
            }
            boolean alike = pick(3) == 0;
            for (int i = 0; i < askers; i++) {
                b.append("asker a").append((char) ('a' + i)).append(" wants s").append((char) ('a' + pick(songs))).append(" dies ")
                    .append(pick(3) == 0 ? pick(100) : pick(3)).append(blank()).append("minds ").append(alike ? 5 : pick(4) == 0 ? pick(100) : pick(12)).append(";");
            }
            for (int i = 0; i < ears; i++) {
                b.append("ear e").append((char) ('a' + i)).append(" taste ").append(pick(10)).append(";");
            }
            if (pick(3) != 0) {
                ofSongs = false;
                b.append("fades ").append(pick(2) == 0 ? "minds-1" + (pick(2) == 0 ? "-since/50" : "+played/3") : sum(2)).append(";");
            }
            ofSongs = true;
            if (pick(3) != 0) {
                b.append("plays ").append(pick(3) == 0 ? "since>" + pick(4) : test(2)).append(";");
            }
            if (pick(3) != 0) {
                b.append("worth ").append(pick(3) == 0 ? "minds*2-long" : sum(2)).append(";");
            }
            if (pick(2) == 0) {
                b.append("hush ").append(pick(1000)).append(";").append("hush ").append(pick(40)).append(" ;");
            }
            if (pick(2) == 0) {
                b.append("toll ").append(pick(101)).append(";");
            }
            if (pick(25) == 0) {
                for (int i = 0; i < 72; i++) {
                    b.append("hush 1;");
                }
            }
            return b.toString();
        }

        private String question() {
            asking = true;
            ofSongs = true;
            switch (pick(6)) {
                case 0: return "first " + test(3);
                case 1: return "last " + test(3);
                case 2: return "often " + test(3);
                case 3: return "total " + sum(3);
                case 4: return "most " + sum(3);
                default: return "least " + sum(3);
            }
        }

        private String test(int depth) {
            StringBuilder b = new StringBuilder(fact(depth));
            while (pick(3) == 0 && budget-- > 0) {
                b.append(pick(2) == 0 ? " or " : " and ").append(fact(depth));
            }
            return b.toString();
        }

        private String fact(int depth) {
            int r = pick(8);
            if (r == 0 && depth > 0) {
                return "not " + fact(depth - pick(2));
            }
            if (r == 1 && depth > 0) {
                return "[" + test(depth - pick(2)) + "]";
            }
            if (r == 2) {
                return "all";
            }
            return sum(depth) + "<>=".charAt(pick(3)) + sum(depth);
        }

        private String sum(int depth) {
            StringBuilder b = new StringBuilder(part(depth));
            while (pick(2) == 0 && budget-- > 0) {
                b.append(pick(8) == 0 ? " " : "").append("+-*/".charAt(pick(4))).append(part(depth));
            }
            return b.toString();
        }

        private String part(int depth) {
            int r = pick(12);
            if (depth > 0 && r == 0) {
                return "(" + sum(depth - pick(2)) + ")";
            }
            if (depth > 0 && r == 1) {
                return (pick(2) == 0 ? "min (" : "max(") + sum(depth - 1) + "," + sum(depth - 1) + ")";
            }
            if (depth > 0 && r == 2 && asking) {
                return "wants " + part(depth - pick(2));
            }
            if (r < 6) {
                return Integer.toString(pick(5) == 0 ? pick(10000) : pick(12));
            }
            String[] words = {"minds", "age", "since", "played", "day", "long", "style", "number", "alive", "on"};
            return words[pick(asking ? 10 : ofSongs ? 7 : 5)];
        }
    }
}
