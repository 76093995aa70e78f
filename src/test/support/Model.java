import java.util.ArrayDeque;
import java.util.ArrayList;
import java.util.Arrays;
import java.util.Deque;
import java.util.List;
import java.util.function.IntBinaryOperator;

/** The document once more, written another way and without thrift, for the tests to compare with. */
final class Model {
    static final int NONE = -1;
    static final long NOTHING = -1000000000000000L;
    static final List<String> OWN = List.of("hour song long style asker wants dies minds ear taste fades plays worth hush toll age since played day number alive on or and not all min max".split(" "));

    /** A FAULT and its place. */
    static final class Fault extends RuntimeException {
        final int kind;
        final int place;
        Fault(int kind, int place) { super(null, null, false, false); this.kind = kind; this.place = place; }
    }

    interface Formula { int of(View v); }

    /** What a formula can look at. */
    static final class View {
        int minds, age, since, played, day, minutes, style, number, alive, on, song;
    }

    static final class Song { String name; int minutes; int style; }
    static final class Ear { String name; int taste; }
    static final class Person implements Cloneable {
        String name; int song; int dies; int minds; int last = -1; int played;
        Person copy() {
            try { return (Person) clone(); } catch (CloneNotSupportedException e) { throw new IllegalStateException(e); }
        }
    }

    static final class World {
        int day, silence;
        List<Person> people = new ArrayList<>();
        List<int[]> kept = new ArrayList<>();
        World copy() {
            World w = new World();
            w.day = day;
            w.silence = silence;
            for (Person p : people) w.people.add(p.copy());
            w.kept.addAll(kept);
            return w;
        }
    }

    static final class Told {
        int statements, hour, hush, toll;
        List<Song> songs = new ArrayList<>();
        List<Person> people = new ArrayList<>();
        List<Ear> ears = new ArrayList<>();
        Formula fades, plays, worth;
        boolean isName(String n) {
            return songs.stream().anyMatch(s -> s.name.equals(n)) || people.stream().anyMatch(p -> p.name.equals(n))
                || ears.stream().anyMatch(e -> e.name.equals(n));
        }
    }

    // ---- reading, byte by byte

    static final class Text {
        final String s;
        int at = 0;
        boolean asking, ofSongs;
        final Deque<Character> open = new ArrayDeque<>();
        Text(String s) { this.s = s; }

        static boolean letter(char c) { return c >= 'a' && c <= 'z'; }
        static boolean digit(char c) { return c >= '0' && c <= '9'; }
        char here() { return at < s.length() ? s.charAt(at) : (char) 1000; }
        boolean ended() { blanks(); return at == s.length(); }
        void blanks() { while (at < s.length() && (s.charAt(at) == 10 || s.charAt(at) == 32)) at++; }
        RuntimeException bad() { return new Fault(1, at); }

        /** The word that stands here, "" without one or where a blank is wanting. */
        String word() {
            blanks();
            if (at > 0 && digit(s.charAt(at - 1))) return "";
            int to = at;
            while (to < s.length() && letter(s.charAt(to))) to++;
            return s.substring(at, to);
        }
        boolean skipWord(String w) {
            if (!word().equals(w)) return false;
            at += w.length();
            return true;
        }
        void need(String w) { if (!skipWord(w)) throw bad(); }
        boolean skipSign(char c) {
            blanks();
            if (here() != c) return false;
            at++;
            return true;
        }
        void needSign(char c) { if (!skipSign(c)) throw bad(); }
        boolean digitsHere() { blanks(); return digit(here()) && !(at > 0 && letter(s.charAt(at - 1))); }
        int number(int lo, int hi) {
            if (!digitsHere()) throw bad();
            int from = at;
            while (digit(here())) {
                if (at - from == 4) throw bad();
                at++;
            }
            int n = Integer.parseInt(s.substring(from, at));
            if (n < lo || n > hi) throw new Fault(2, from);
            return n;
        }
        String name() {
            String w = word();
            if (w.isEmpty() || OWN.contains(w)) throw bad();
            if (w.length() > 6) throw new Fault(1, at + 6);
            return w;
        }
        void push(char c) {
            if (open.size() == 6) throw new Fault(4, at);
            open.push(c);
        }

        Formula test() {
            List<Formula> all = new ArrayList<>();
            do all.add(both()); while (skipWord("or"));
            return v -> all.stream().anyMatch(f -> f.of(v) != 0) ? 1 : 0;
        }
        Formula both() {
            List<Formula> all = new ArrayList<>();
            do all.add(fact()); while (skipWord("and"));
            return v -> all.stream().allMatch(f -> f.of(v) != 0) ? 1 : 0;
        }
        Formula fact() {
            String w = word();
            if (w.equals("not")) {
                push('n');
                at += 3;
                Formula f = fact();
                open.pop();
                return v -> 1 - f.of(v);
            }
            if (w.equals("all")) {
                at += 3;
                return v -> 1;
            }
            if (here() == '[') {
                push('[');
                at++;
                Formula f = test();
                needSign(']');
                open.pop();
                return f;
            }
            Formula a = sum();
            blanks();
            char sign = here();
            if (sign != '<' && sign != '>' && sign != '=') throw bad();
            at++;
            Formula b = sum();
            return v -> {
                int c = Integer.compare(a.of(v), b.of(v));
                return (sign == '<' ? c < 0 : sign == '>' ? c > 0 : c == 0) ? 1 : 0;
            };
        }
        Formula sum() {
            Formula f = product();
            while (true) {
                Formula a = f;
                if (skipSign('+')) { Formula b = product(); f = v -> edge((long) a.of(v) + b.of(v)); }
                else if (skipSign('-')) { Formula b = product(); f = v -> edge((long) a.of(v) - b.of(v)); }
                else return f;
            }
        }
        Formula product() {
            Formula f = part();
            while (true) {
                Formula a = f;
                if (skipSign('*')) { Formula b = part(); f = v -> edge((long) a.of(v) * b.of(v)); }
                else if (skipSign('/')) { Formula b = part(); f = v -> floor(a.of(v), b.of(v)); }
                else return f;
            }
        }
        static int edge(long x) { return x > 1000000 ? 1000000 : x < -1000000 ? -1000000 : (int) x; }
        static int floor(int a, int b) {
            if (b == 0) return 0;
            int q = a / b;
            return a % b != 0 && (a < 0) != (b < 0) ? q - 1 : q;
        }
        Formula part() {
            if (digitsHere()) { int n = number(0, 9999); return v -> n; }
            if (here() == '(') {
                push('(');
                at++;
                Formula f = sum();
                needSign(')');
                open.pop();
                return f;
            }
            String w = word();
            if (w.equals("min")) return pair(w, Math::min);
            if (w.equals("max")) return pair(w, Math::max);
            if (asking && w.equals("wants")) {
                push('w');
                at += 5;
                Formula f = part();
                open.pop();
                return v -> f.of(v) == v.song ? 1 : 0;
            }
            Formula f = fact(w);
            if (f == null) throw bad();
            at += w.length();
            return f;
        }
        Formula pair(String w, IntBinaryOperator op) {
            at += w.length();
            blanks();
            if (here() != '(') throw bad();
            push('(');
            at++;
            Formula a = sum();
            needSign(',');
            Formula b = sum();
            needSign(')');
            open.pop();
            return v -> op.applyAsInt(a.of(v), b.of(v));
        }
        Formula fact(String w) {
            switch (w) {
                case "minds": return v -> v.minds;
                case "age": return v -> v.age;
                case "since": return v -> v.since;
                case "played": return v -> v.played;
                case "day": return v -> v.day;
                case "long": return ofSongs || asking ? v -> v.minutes : null;
                case "style": return ofSongs || asking ? v -> v.style : null;
                case "number": return asking ? v -> v.number : null;
                case "alive": return asking ? v -> v.alive : null;
                case "on": return asking ? v -> v.on : null;
                default: return null;
            }
        }
    }

    static Told read(String s) {
        Text t = new Text(s);
        Told told = new Told();
        while (!t.ended()) {
            if (told.statements == 80) throw new Fault(5, t.at);
            String w = t.word();
            if (told.statements == 0 ? !w.equals("hour") : w.equals("hour")) throw t.bad();
            statement(t, told, w);
            t.needSign(';');
            told.statements++;
        }
        if (told.statements == 0) throw new Fault(1, s.length());
        if (told.fades == null) told.fades = v -> v.minds - 1;
        if (told.plays == null) told.plays = v -> 1;
        if (told.worth == null) told.worth = v -> v.minds;
        return told;
    }

    static void statement(Text t, Told told, String w) {
        boolean tooMany = w.equals("song") && told.songs.size() == 6 || w.equals("asker") && told.people.size() == 8
            || w.equals("ear") && told.ears.size() == 5 || w.equals("fades") && told.fades != null
            || w.equals("plays") && told.plays != null || w.equals("worth") && told.worth != null;
        if (tooMany) throw new Fault(5, t.at);
        if (!List.of("hour", "song", "asker", "ear", "fades", "plays", "worth", "hush", "toll").contains(w)) throw t.bad();
        t.at += w.length();
        t.ofSongs = !w.equals("fades");
        switch (w) {
            case "hour": told.hour = t.number(1, 60); break;
            case "hush": told.hush = t.number(0, 999); break;
            case "toll": told.toll = t.number(0, 100); break;
            case "fades": told.fades = t.sum(); break;
            case "plays": told.plays = t.test(); break;
            case "worth": told.worth = t.sum(); break;
            default: {
                String name = t.name();
                if (told.isName(name)) throw new Fault(3, t.at);
                t.at += name.length();
                if (w.equals("song")) {
                    Song x = new Song();
                    x.name = name;
                    t.need("long");
                    x.minutes = t.number(1, 60);
                    t.need("style");
                    x.style = t.number(0, 9);
                    told.songs.add(x);
                } else if (w.equals("ear")) {
                    Ear x = new Ear();
                    x.name = name;
                    t.need("taste");
                    x.taste = t.number(0, 9);
                    told.ears.add(x);
                } else {
                    Person x = new Person();
                    x.name = name;
                    t.need("wants");
                    String song = t.name();
                    x.song = -1;
                    for (int i = 0; i < told.songs.size(); i++) if (told.songs.get(i).name.equals(song)) x.song = i;
                    if (x.song < 0) throw new Fault(3, t.at);
                    t.at += song.length();
                    t.need("dies");
                    x.dies = t.number(0, 99);
                    t.need("minds");
                    x.minds = t.number(0, 99);
                    told.people.add(x);
                }
            }
        }
    }

    // ---- the object

    StringBuilder tape = new StringBuilder();
    Told told = null;
    World now = new World();
    Deque<World> undo = new ArrayDeque<>();
    List<int[]> seen = new ArrayList<>();
    int faultKind = 0, faultPlace = NONE;
    int[] refused = new int[6];
    List<Integer> picture = new ArrayList<>();
    long seed = 1;

    int no(int kind) { refused[kind]++; return NONE; }
    boolean noBool(int kind) { refused[kind]++; return false; }
    String takeTape() { String s = tape.toString(); tape.setLength(0); return s; }
    boolean person(int a) { return told != null && a >= 0 && a < told.people.size(); }
    boolean isSong(int s) { return told != null && s >= 0 && s < told.songs.size(); }

    int feed(int a, int b, int c, int d, int e) {
        if (tape.length() > 1580) return no(0);
        for (int x : new int[] {a, b, c, d, e}) for (int k = 3; k >= 0; k--) tape.append((char) (x >>> (8 * k) & 255));
        return tape.length();
    }
    boolean end(int n) {
        if (n < 0 || n > tape.length()) return noBool(0);
        tape.setLength(n);
        return true;
    }
    int station() {
        try {
            told = read(takeTape());
        } catch (Fault f) {
            faultKind = f.kind;
            faultPlace = f.place;
            return no(1);
        }
        faultKind = 0;
        faultPlace = NONE;
        now = new World();
        now.silence = told.hush;
        for (Person p : told.people) now.people.add(p.copy());
        undo.clear();
        seen.clear();
        return told.statements;
    }
    int fault(int what) { return what == 0 ? faultKind : what == 1 ? faultPlace : NONE; }

    static boolean dead(World w, Person p) { return p.dies <= w.day; }
    View view(World w, int a) {
        Person p = w.people.get(a);
        View v = new View();
        v.minds = p.minds;
        v.age = dead(w, p) ? w.day - p.dies : 0;
        v.since = p.last < 0 || w.day - p.last > 99 ? 99 : w.day - p.last;
        v.played = p.played;
        v.day = w.day;
        v.minutes = told.songs.get(p.song).minutes;
        v.style = told.songs.get(p.song).style;
        v.number = a;
        v.alive = dead(w, p) ? 0 : 1;
        v.song = p.song;
        return v;
    }
    boolean can(World w, int a) {
        Person p = w.people.get(a);
        return dead(w, p) && p.minds > 0 && told.plays.of(view(w, a)) != 0;
    }
    int canBits(World w) {
        int bits = 0;
        for (int a = 0; a < w.people.size(); a++) if (can(w, a)) bits |= 1 << a;
        return bits;
    }
    int minutes(World w, int bits) {
        int m = 0;
        for (int a = 0; a < w.people.size(); a++) if ((bits >> a & 1) == 1) m += told.songs.get(w.people.get(a).song).minutes;
        return m;
    }
    long worths(World w, int bits) {
        long m = 0;
        for (int a = 0; a < w.people.size(); a++) if ((bits >> a & 1) == 1) m += told.worth.of(view(w, a));
        return m;
    }
    List<Integer> programmes(World w) {
        int can = canBits(w);
        List<Integer> sets = new ArrayList<>();
        for (int b = 0; b < 256; b++) if ((b | can) == can && minutes(w, b) <= told.hour) sets.add(b);
        return sets;
    }
    int bestOf(World w) {
        if (told == null) return 0;
        long[] worth = new long[256];
        int[] mins = new int[256];
        List<Integer> sets = programmes(w);
        for (int b : sets) { worth[b] = worths(w, b); mins[b] = minutes(w, b); }
        sets.sort((x, y) -> worth[x] != worth[y] ? Long.compare(worth[y], worth[x])
            : mins[x] != mins[y] ? Integer.compare(mins[x], mins[y]) : Integer.compare(x, y));
        return sets.get(0);
    }
    void pass(World w, int bits) {
        int left = told.hour - minutes(w, bits);
        for (int a = 0; a < w.people.size(); a++) {
            if ((bits >> a & 1) == 1) {
                w.people.get(a).played = Math.min(999, w.people.get(a).played + 1);
                w.people.get(a).last = w.day;
            }
        }
        int hush = Math.min(left, w.silence);
        w.silence -= hush;
        w.kept.add(new int[] {w.day, bits, hush});
        if (w.kept.size() > 40) w.kept.remove(0);
        for (int a = 0; a < w.people.size(); a++) {
            Person p = w.people.get(a);
            if (dead(w, p)) p.minds = Math.max(0, Math.min(99, told.fades.of(view(w, a))));
        }
        w.day = Math.min(999, w.day + 1);
    }

    int has(int what) {
        World w = now;
        switch (what) {
            case 0: return told == null ? 0 : told.hour;
            case 1: return told == null ? 0 : told.songs.size();
            case 2: return w.people.size();
            case 3: return told == null ? 0 : told.ears.size();
            case 4: return w.day;
            case 5: return w.silence;
            case 6: return (int) w.people.stream().filter(p -> dead(w, p)).count();
            case 7: return (int) w.people.stream().filter(p -> p.minds == 0).count();
            case 8: return Integer.bitCount(canBits(w));
            case 9: return w.kept.size();
            case 10: return seen.size();
            case 11: return undo.size();
            default: return NONE;
        }
    }
    int letter(int kind, int which, int k) {
        if (told == null || k < 0 || k > 5 || which < 0) return NONE;
        String name = null;
        if (kind == 0 && which < told.songs.size()) name = told.songs.get(which).name;
        if (kind == 1 && which < told.people.size()) name = told.people.get(which).name;
        if (kind == 2 && which < told.ears.size()) name = told.ears.get(which).name;
        return name == null ? NONE : k < name.length() ? name.charAt(k) - 'a' + 1 : 0;
    }
    int song(int s, int what) {
        return !isSong(s) ? NONE : what == 0 ? told.songs.get(s).minutes : what == 1 ? told.songs.get(s).style : NONE;
    }
    int asker(int a, int what) {
        if (!person(a)) return NONE;
        Person p = now.people.get(a);
        return what == 0 ? p.song : what == 1 ? p.dies : what == 2 ? p.minds : what == 3 ? p.played
            : what == 4 ? view(now, a).since : what == 5 ? (can(now, a) ? 1 : 0) : NONE;
    }
    long worth(int a) { return person(a) ? told.worth.of(view(now, a)) : NOTHING; }
    int best(int what) {
        return told == null ? NONE : what == 0 ? bestOf(now) : what == 1 ? minutes(now, bestOf(now)) : NONE;
    }
    int kept(int k, int what) {
        return k < 0 || k >= now.kept.size() || what < 0 || what > 2 ? NONE : now.kept.get(k)[what];
    }

    /** The worlds of the DAYS AHEAD, 0 is now. */
    List<World> ahead(World from, int most) {
        List<World> all = new ArrayList<>();
        World w = from.copy();
        for (int n = 0; n <= most && from.day + n <= 999; n++) {
            all.add(w.copy());
            pass(w, bestOf(w));
        }
        return all;
    }
    int later(int n) {
        if (told == null || n < 0 || n > 60) return NONE;
        List<World> all = ahead(now, n);
        return n < all.size() ? bestOf(all.get(n)) : NONE;
    }
    int minded(int a, int n) {
        if (!person(a) || n < 0 || n > 60) return NONE;
        List<World> all = ahead(now, n);
        return n < all.size() ? all.get(n).people.get(a).minds : NONE;
    }
    int nothing() {
        if (told == null) return NONE;
        List<World> all = ahead(now, 60);
        for (int n = 0; n < all.size(); n++) if (bestOf(all.get(n)) == 0) return n;
        return NONE;
    }
    int hushed() {
        if (told == null) return NONE;
        List<World> all = ahead(now, 60);
        for (int n = 0; n < all.size(); n++) if (all.get(n).silence == 0) return n;
        return NONE;
    }
    int full() {
        if (told == null || now.day > 998) return NONE;
        int most = 0;
        for (int one : programmes(now)) {
            World w = now.copy();
            pass(w, one);
            int first = minutes(now, one) == told.hour ? 1 : 0;
            for (int two : programmes(w)) most = Math.max(most, first + (minutes(w, two) == told.hour ? 1 : 0));
        }
        return most;
    }
    int fame(int a, int n, int what) {
        if (!person(a) || n < 1 || n > 30 || now.day + n > 999 || what < 0 || what > 1) return NONE;
        int[] often = new int[told.songs.size()];
        for (int s = 0; s < often.length; s++) {
            World w = now.copy();
            w.people.get(a).song = s;
            List<World> all = ahead(w, n - 1);
            for (World x : all) often[s] += bestOf(x) >> a & 1;
        }
        int top = Arrays.stream(often).max().getAsInt();
        for (int s = 0; s < often.length; s++) if (often[s] == top) return what == 0 ? s : top;
        throw new IllegalStateException();
    }
    int shared() {
        int can = canBits(now);
        int found = -1;
        for (int b = 0; b < 256; b++) {
            if ((b | can) != can) continue;
            if (found < 0) { found = b; continue; }
            long a1 = worths(now, b), a2 = worths(now, can & ~b), b1 = worths(now, found), b2 = worths(now, can & ~found);
            if (Math.min(a1, a2) > Math.min(b1, b2) || Math.min(a1, a2) == Math.min(b1, b2) && Math.max(a1, a2) > Math.max(b1, b2)) found = b;
        }
        return found;
    }
    int heard(int ear) {
        int ears = told == null ? 0 : told.ears.size();
        if (ear < -1 || ear >= ears) return NONE;
        int best = bestOf(now);
        int[] top = null;
        int topSum = -1;
        int[] row = new int[ears];
        int rows = 1;
        for (int e = 0; e < ears; e++) rows *= now.people.size() + 1;
        // every row in order, the first ear's asker the weightiest digit, none the least
        for (int code = 0; code < rows; code++) {
            int rest = code;
            for (int e = ears - 1; e >= 0; e--) { row[e] = rest % (now.people.size() + 1) - 1; rest /= now.people.size() + 1; }
            int used = 0, sum = 0;
            boolean ok = true;
            for (int e = 0; e < ears && ok; e++) {
                if (row[e] < 0) continue;
                ok = (best >> row[e] & 1) == 1 && (used >> row[e] & 1) == 0;
                used |= 1 << row[e];
                sum += 9 - Math.abs(told.songs.get(now.people.get(row[e]).song).style - told.ears.get(e).taste);
            }
            if (ok && sum > topSum) { topSum = sum; top = row.clone(); }
        }
        return ear == -1 ? topSum : top[ear];
    }
    int see() {
        String s = takeTape();
        boolean ok = told != null && s.length() > 0 && s.length() % 3 == 0 && s.length() <= 48;
        for (int i = 0; ok && i < s.length(); i += 3) ok = s.charAt(i) <= 30 && person(s.charAt(i + 1)) && s.charAt(i + 2) <= 1;
        if (!ok) return no(1);
        seen.clear();
        for (int i = 0; i < s.length(); i += 3) seen.add(new int[] {s.charAt(i), s.charAt(i + 1), s.charAt(i + 2)});
        return seen.size();
    }
    /** For each number that fits the days on which his request is played. */
    List<boolean[]> fitting(int a, List<Integer> numbers) {
        List<boolean[]> all = new ArrayList<>();
        for (int v = 0; v < 100; v++) {
            World w = now.copy();
            w.people.get(a).minds = v;
            List<World> days = ahead(w, 30);
            int[] best = new int[days.size()];
            for (int d = 0; d < best.length; d++) best[d] = bestOf(days.get(d));
            boolean ok = true;
            for (int[] r : seen) ok &= r[0] < best.length && (best[r[0]] >> r[1] & 1) == r[2];
            if (!ok) continue;
            boolean[] on = new boolean[best.length];
            for (int d = 0; d < best.length; d++) on[d] = (best[d] >> a & 1) == 1;
            all.add(on);
            numbers.add(v);
        }
        return all;
    }
    int fits(int a, int what) {
        if (!person(a) || what < 0 || what > 2) return NONE;
        List<Integer> n = new ArrayList<>();
        fitting(a, n);
        return what == 0 ? n.size() : n.isEmpty() ? NONE : what == 1 ? n.get(0) : n.get(n.size() - 1);
    }
    int tells(int a, int what) {
        if (!person(a) || what < 0 || what > 1) return NONE;
        List<boolean[]> all = fitting(a, new ArrayList<>());
        if (all.isEmpty()) return NONE;
        int day = -1, few = 1000;
        for (int d = 0; d < all.get(0).length; d++) {
            int yes = 0;
            for (boolean[] x : all) yes += x[d] ? 1 : 0;
            int most = Math.max(yes, all.size() - yes);
            if (most < few) { few = most; day = d; }
        }
        return what == 0 ? day : few;
    }

    void act() {
        undo.push(now.copy());
        if (undo.size() > 20) undo.removeLast();
    }
    boolean want(int a, int s) {
        if (!person(a) || !isSong(s) || now.people.get(a).song == s) return noBool(2);
        act();
        now.people.get(a).song = s;
        return true;
    }
    int mourn(int a, int much) {
        if (!person(a) || much < 1 || much > 99 || now.people.get(a).minds == 99) return no(2);
        act();
        return now.people.get(a).minds = Math.min(99, now.people.get(a).minds + much);
    }
    int days(int n) {
        if (told == null || n < 1 || n > Math.min(100, 999 - now.day)) return no(3);
        act();
        int count = 0;
        for (int i = 0; i < n; i++) {
            int b = bestOf(now);
            count += Integer.bitCount(b);
            pass(now, b);
        }
        return count;
    }
    int draw(int m) {
        seed = (1103515245L * seed + 12345L) % (1L << 31);
        return (int) (seed / 64 % m);
    }
    int chance(int n) {
        if (told == null || n < 1 || n > Math.min(100, 999 - now.day)) return no(3);
        act();
        int deaths = 0;
        for (int i = 0; i < n; i++) {
            boolean falls = draw(100) < told.toll;
            List<Person> alive = new ArrayList<>();
            for (Person p : now.people) if (!dead(now, p)) alive.add(p);
            if (falls && !alive.isEmpty()) {
                alive.get(draw(alive.size())).dies = now.day;
                deaths++;
            }
            pass(now, bestOf(now));
        }
        return deaths;
    }
    boolean undo() {
        if (undo.isEmpty()) return noBool(4);
        now = undo.pop();
        return true;
    }
    boolean seed(int s) {
        if (s < 0) return noBool(5);
        seed = s;
        return true;
    }

    long ask() {
        String s = takeTape();
        if (told == null) return NOTHING;
        String w;
        Formula f;
        try {
            Text t = new Text(s);
            t.asking = true;
            w = t.word();
            if (!List.of("first", "last", "often", "total", "most", "least").contains(w)) throw t.bad();
            t.at += w.length();
            f = List.of("first", "last", "often").contains(w) ? t.test() : t.sum();
            if (!t.ended()) throw t.bad();
        } catch (Fault x) {
            faultKind = x.kind;
            faultPlace = x.place;
            return NOTHING;
        }
        faultKind = 0;
        faultPlace = NONE;
        int best = bestOf(now);
        List<Integer> values = new ArrayList<>();
        for (int a = 0; a < now.people.size(); a++) {
            View v = view(now, a);
            v.on = best >> a & 1;
            values.add(f.of(v));
        }
        switch (w) {
            case "first": return values.indexOf(1);
            case "last": return values.lastIndexOf(1);
            case "often": return values.stream().filter(x -> x == 1).count();
            case "total": return values.stream().mapToLong(x -> x).sum();
            case "most": return values.stream().mapToLong(x -> x).max().orElse(0);
            default: return values.stream().mapToLong(x -> x).min().orElse(0);
        }
    }

    void put(int bytes, int x) { for (int k = bytes - 1; k >= 0; k--) picture.add(x >> (8 * k) & 255); }
    int image() {
        picture.clear();
        put(2, now.day);
        put(2, now.silence);
        for (Person p : now.people) {
            put(1, p.song);
            put(2, p.dies);
            put(1, p.minds);
            put(2, p.last + 1);
            put(2, p.played);
        }
        int c = 151;
        for (int x : picture) c = (3 * c + x) % 251;
        put(1, c);
        return picture.size();
    }
    int octet(int k) { return k < 0 || k >= picture.size() ? NONE : picture.get(k); }
    boolean on() {
        String s = takeTape();
        if (told == null || s.length() != 5 + 8 * told.people.size()) return noBool(5);
        int c = 151;
        for (int i = 0; i < s.length() - 1; i++) c = (3 * c + s.charAt(i)) % 251;
        World w = now.copy();
        w.kept.clear();
        w.day = s.charAt(0) << 8 | s.charAt(1);
        w.silence = s.charAt(2) << 8 | s.charAt(3);
        boolean ok = c == s.charAt(s.length() - 1) && w.day < 1000 && w.silence < 1000;
        int at = 4;
        for (Person p : w.people) {
            p.song = s.charAt(at);
            p.dies = s.charAt(at + 1) << 8 | s.charAt(at + 2);
            p.minds = s.charAt(at + 3);
            p.last = (s.charAt(at + 4) << 8 | s.charAt(at + 5)) - 1;
            p.played = s.charAt(at + 6) << 8 | s.charAt(at + 7);
            ok &= isSong(p.song) && p.dies < 1000 && p.minds < 100 && p.last <= w.day && p.played < 1000;
            at += 8;
        }
        if (!ok) return noBool(5);
        now = w;
        undo.clear();
        return true;
    }
    int status(int what) { return what < 0 || what > 5 ? NONE : refused[what]; }
}
