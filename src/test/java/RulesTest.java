import java.lang.management.ManagementFactory;
import java.lang.reflect.Field;
import java.lang.reflect.Method;
import java.lang.reflect.Modifier;
import java.nio.file.Files;
import java.nio.file.Path;
import java.util.Random;
import java.util.Set;
import java.util.TreeSet;
import java.util.regex.Matcher;
import java.util.regex.Pattern;

/** LANGUAGE.md, as far as it can be looked at from outside: the face, the words, the lengths, no throwing, the room. */
public final class RulesTest {
    private static final String FACE = "public int feed(int a, int b, int c, int d, int e);public boolean end(int n);public int station();"
            + "public int fault(int what);public int has(int what);public int letter(int kind, int which, int k);public int song(int song, int what);"
            + "public int asker(int asker, int what);public long worth(int asker);public int best(int what);public int kept(int k, int what);"
            + "public int later(int n);public int minded(int asker, int n);public int nothing();public int hushed();public int full();"
            + "public int fame(int asker, int n, int what);public int shared();public int heard(int ear);public int see();"
            + "public int fits(int asker, int what);public int tells(int asker, int what);public boolean want(int asker, int song);"
            + "public int mourn(int asker, int much);public int days(int n);public int chance(int n);public boolean undo();"
            + "public boolean seed(int seed);public long ask();public int image();public int octet(int k);public boolean on();public int status(int what);";

    public static void main(String[] args) throws Exception {
        Check c = new Check("LANGUAGE.md");
        String source = Files.readString(Path.of("src/main/java/GraveRequest.java"));
        face(c);
        classes(c);
        words(c, source);
        lengths(c, source);
        neverThrows(c);
        room(c);
        Check.end("RulesTest");
    }

    private static void face(Check c) {
        c.due("the class is public and final", Modifier.isPublic(GraveRequest.class.getModifiers()) && Modifier.isFinal(GraveRequest.class.getModifiers()), true);
        Set<String> due = new TreeSet<>();
        for (String line : FACE.split(";")) {
            due.add(line.replaceAll("(int) \\w+(?=[,)])", "$1"));
        }
        Set<String> got = new TreeSet<>();
        for (Method m : GraveRequest.class.getDeclaredMethods()) {
            if (Modifier.isPrivate(m.getModifiers())) {
                continue;
            }
            StringBuilder line = new StringBuilder(Modifier.toString(m.getModifiers())).append(" ").append(m.getReturnType()).append(" ").append(m.getName()).append("(");
            for (int i = 0; i < m.getParameterCount(); i++) {
                line.append(i == 0 ? "" : ", ").append(m.getParameterTypes()[i]);
            }
            got.add(line.append(")").toString());
        }
        c.due("the face: due " + due + ", got " + got, due.equals(got), true);
        for (Field f : GraveRequest.class.getDeclaredFields()) {
            boolean constant = f.getName().equals("NONE") || f.getName().equals("NOTHING");
            c.due(f.getName() + " is private", Modifier.isPrivate(f.getModifiers()), !constant);
        }
        c.due("one constructor", GraveRequest.class.getDeclaredConstructors().length, 1);
    }

    private static void classes(Check c) {
        Class<?>[] inside = GraveRequest.class.getDeclaredClasses();
        c.due("at most twelve classes", inside.length < 12, true);
        Set<String> publicNames = new TreeSet<>();
        for (Method m : GraveRequest.class.getDeclaredMethods()) {
            if (Modifier.isPublic(m.getModifiers())) {
                publicNames.add(m.getName());
            }
        }
        Class<?>[] all = java.util.Arrays.copyOf(inside, inside.length + 1);
        all[inside.length] = GraveRequest.class;
        for (Class<?> type : all) {
            if (type != GraveRequest.class) {
                c.due(type + " is static", Modifier.isStatic(type.getModifiers()), true);
            }
            int fields = 0;
            for (Field f : type.getDeclaredFields()) {
                boolean isStatic = Modifier.isStatic(f.getModifiers());
                fields += isStatic ? 0 : 1;
                c.due(f + " is final if static", !isStatic || Modifier.isFinal(f.getModifiers()), true);
            }
            c.due(type + " has some twenty fields: " + fields, fields <= 21, true);
            for (Method m : type.getDeclaredMethods()) {
                c.due(m + " takes at most seven", m.getParameterCount() <= 7, true);
                c.due(m + " bears the name of a public one", !Modifier.isPublic(m.getModifiers()) && publicNames.contains(m.getName()), false);
            }
        }
    }

    private static String bare(String source) {
        String text = source.replaceAll("(?s)/\\*.*?\\*/", "").replaceAll("//[^\n]*", "");
        return text.replaceAll("\"[^\"\n]*\"", "\"\"").replaceAll("'[^'\n]'", "' '");
    }

    private static void words(Check c, String source) {
        String text = bare(source);
        for (String word : "throw try catch finally throws synchronized assert import package var record sealed native volatile transient goto strictfp".split(" ")) {
            c.due("the word " + word, Pattern.compile("\\b" + word + "\\b").matcher(text).find(), false);
        }
        for (String sign : new String[] {"->", "::", "@", "System.out", "Exact", "Random", "nanoTime", "currentTimeMillis", "hashCode", "toString"}) {
            c.due("the sign " + sign, text.contains(sign), false);
        }
        Matcher library = Pattern.compile("\\b(Math|Integer|Long|System|Arrays|String)\\.(\\w+)").matcher(text);
        Set<String> allowed = Set.of("Math.max", "Math.min", "Math.abs", "Math.floorDiv", "Integer.bitCount", "System.arraycopy");
        while (library.find()) {
            c.due(library.group() + " is allowed", allowed.contains(library.group()), true);
        }
        for (int i = 0; i < source.length(); i++) {
            if (source.charAt(i) > 126 || source.charAt(i) < 32 && source.charAt(i) != '\n') {
                c.due("the sign at " + i, source.charAt(i), 32);
            }
        }
    }

    /** Methods stand at one or two steps of indentation and end with a brace at the same. */
    private static void lengths(Check c, String source) {
        String[] lines = source.split("\n");
        for (int i = 0; i < lines.length; i++) {
            Matcher head = Pattern.compile("( {4}| {8})(public|private) .*\\) \\{").matcher(lines[i]);
            if (!head.matches()) {
                continue;
            }
            int to = i;
            while (to < lines.length && !lines[to].equals(head.group(1) + "}")) {
                to++;
            }
            c.due("short enough: " + lines[i].trim(), to - i < 60, true);
        }
    }

    /** Every method with numbers from the edges, ahead of a station and behind one, and with wild tapes. */
    private static void neverThrows(Check c) throws Exception {
        int[] edges = {Integer.MIN_VALUE, -2, -1, 0, 1, 2, 7, 8, 30, 31, 60, 61, 99, 100, 101, 999, 1000, 1600, Integer.MAX_VALUE};
        Random random = new Random(5);
        for (int round = 0; round < 300; round++) {
            Check each = new Check("round " + round);
            if (round % 3 != 0) {
                each.station("hour 60;song s long 1 style 9;song t long 60 style 0;asker a wants s dies 0 minds 99;asker b wants t dies 3 minds 1;"
                        + "asker d wants s dies 99 minds 50;ear e taste 9;ear f taste 0;toll 50;hush 999;fades minds*minds/(minds-50)+day*day*day;");
            }
            for (int i = 0; i < 150; i++) {
                Method[] methods = GraveRequest.class.getMethods();
                Method m = methods[random.nextInt(methods.length)];
                if (m.getDeclaringClass() != GraveRequest.class) {
                    continue;
                }
                Object[] numbers = new Object[m.getParameterCount()];
                for (int k = 0; k < numbers.length; k++) {
                    numbers[k] = random.nextInt(4) == 0 ? random.nextInt() : edges[random.nextInt(edges.length)];
                }
                try {
                    m.invoke(each.x, numbers);
                } catch (java.lang.reflect.InvocationTargetException e) {
                    c.due(m + " threw " + e.getCause(), 1, 0);
                }
            }
        }
    }

    /** What calls make is made in the constructor; calls make nothing. */
    private static void room(Check c) {
        com.sun.management.ThreadMXBean threads = (com.sun.management.ThreadMXBean) ManagementFactory.getThreadMXBean();
        GraveRequest warm = new GraveRequest();
        everyCall(warm, 3);
        long self = Thread.currentThread().getId();
        long start = threads.getThreadAllocatedBytes(self);
        GraveRequest x = new GraveRequest();
        long made = threads.getThreadAllocatedBytes(self) - start;
        c.due("a new object is small: " + made, made < 60000, true);
        start = threads.getThreadAllocatedBytes(self);
        everyCall(x, 10);
        made = threads.getThreadAllocatedBytes(self) - start;
        c.due("calls make nothing: " + made, made < 4000, true);
    }

    private static void everyCall(GraveRequest x, int times) {
        for (int i = 0; i < times; i++) {
            // hour 9;song s long 3 style 1;asker a wants s dies 0 minds 9; and blanks
            x.feed(1752135026, 540621683, 1869506336, 1931504751, 1852252211);
            x.feed(544437369, 1818566705, 996242283, 1701978209, 544694638);
            x.feed(1953702003, 543451493, 1931489312, 1835626084, 1931491643);
            x.station();
            x.feed(1953461345, 1814064489, 1852076832, 538976288, 538976288);
            x.ask();
            x.feed(0, 0, 0, 0, 0);
            x.end(3);
            x.see();
            x.fits(0, 0);
            x.tells(0, 0);
            x.later(60);
            x.minded(0, 60);
            x.nothing();
            x.hushed();
            x.full();
            x.fame(0, 30, 0);
            x.shared();
            x.heard(GraveRequest.NONE);
            x.mourn(0, 1);
            x.days(100);
            x.chance(100);
            x.undo();
            x.image();
            x.feed(0, 0, 0, 0, 0);
            x.on();
            x.has(8);
            x.best(1);
        }
    }
}
