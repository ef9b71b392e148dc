import java.lang.management.ManagementFactory;
import java.lang.reflect.Constructor;
import java.lang.reflect.Field;
import java.lang.reflect.Method;
import java.lang.reflect.Modifier;
import java.nio.file.Files;
import java.nio.file.Path;
import java.util.ArrayList;
import java.util.List;
import java.util.Set;
import java.util.TreeSet;

/** What ../shared/LANGUAGE.md asks of the file that can be seen by a program: its face, its words, its lengths, its room. */
public final class LanguageTests {
    private static final Check CHECK = new Check();

    public static void main(String[] args) throws Exception {
        face();
        nestedClasses();
        text();
        room();
        CHECK.close();
    }

    private static void face() {
        Set<String> due = new TreeSet<>(List.of(
            "int feed(long,long,long)", "int mountain()", "int farm(int,int)", "int tooth(int,int)", "boolean seed(int)",
            "int nights(int)", "boolean pact(int,int,boolean)", "int bones()", "int bone(int,int)", "int feuds(int,int)",
            "int gone(int,boolean)", "int loss(int,int)", "int level(int,int,int)", "int rests(int)", "int rest(int,int)",
            "int played(int,int,int)", "int firm(int)", "int group(int,int,int)", "int pup(int,int)", "int bite(int)",
            "int whose(int,int)", "int chance(int)", "boolean mark(int,boolean)", "int count(int)"));
        Set<String> got = new TreeSet<>();
        Set<String> names = new TreeSet<>();
        for (Method m : WolfHalf.class.getDeclaredMethods()) {
            if (Modifier.isPublic(m.getModifiers())) {
                List<String> types = new ArrayList<>();
                for (Class<?> type : m.getParameterTypes()) {
                    types.add(type.getName());
                }
                got.add(m.getReturnType().getName() + " " + m.getName() + "(" + String.join(",", types) + ")");
                names.add(m.getName());
            }
        }
        yes("the public methods are " + got, got.equals(due));
        for (Method m : WolfHalf.class.getDeclaredMethods()) {
            boolean open = Modifier.isPublic(m.getModifiers());
            yes(m + " is public or private", open || Modifier.isPrivate(m.getModifiers()));
            yes(m + " bears a name of its own", open || !names.contains(m.getName()));
        }
        for (Field f : WolfHalf.class.getDeclaredFields()) {
            yes(f + " is private or NONE", Modifier.isPrivate(f.getModifiers()) || f.getName().equals("NONE"));
        }
        Constructor<?>[] made = WolfHalf.class.getDeclaredConstructors();
        yes("one public constructor", made.length == 1 && Modifier.isPublic(made[0].getModifiers()));
        yes("the class is final", Modifier.isFinal(WolfHalf.class.getModifiers()));
    }

    private static void nestedClasses() {
        Class<?>[] inside = WolfHalf.class.getDeclaredClasses();
        yes("some twelve classes", inside.length <= 11);
        for (Class<?> c : inside) {
            yes(c + " is private and static", Modifier.isPrivate(c.getModifiers()) && Modifier.isStatic(c.getModifiers()));
            int fields = 0;
            for (Field f : c.getDeclaredFields()) {
                fields += Modifier.isStatic(f.getModifiers()) ? 0 : 1;
                yes(f + " static and final", !Modifier.isStatic(f.getModifiers()) || Modifier.isFinal(f.getModifiers()));
            }
            yes(c + " has some twenty fields", fields <= 20);
            for (Method m : c.getDeclaredMethods()) {
                yes(m + " takes at most seven", m.getParameterCount() <= 7);
            }
        }
    }

    private static void text() throws Exception {
        List<String> lines = Files.readAllLines(Path.of("src/main/java/WolfHalf.java"));
        String[] banned = {
            "->", "::", "try ", "catch", "finally", "synchronized", "assert", "instanceof", "System.out", "Random", "Thread",
            "package ", "static {", "Exact(", "System.nano", "System.current", "getMessage", "hashCode", "toString", "var "
        };
        int start = 0;
        for (int i = 0; i < lines.size(); i++) {
            String line = lines.get(i);
            for (String word : banned) {
                yes("line " + (i + 1) + " has no " + word, !line.contains(word));
            }
            yes("line " + (i + 1) + " is plain", line.chars().allMatch(c -> c >= 32 && c < 127));
            if (line.startsWith("import ")) {
                yes(line, line.equals("import java.util.Arrays;") || line.equals("import java.util.NoSuchElementException;"));
            }
            boolean head = line.matches("( {4}| {8})[a-z].*\\(.*\\{");
            start = head ? i : start;
            boolean end = line.equals("    }") || line.equals("        }");
            yes("a method of at most sixty lines ends at " + (i + 1), !end || i - start < 60 || line.equals("    }"));
        }
    }

    /** Once an object is made its calls make nothing any more: the rows of the constructor serve again and again. */
    private static void room() {
        com.sun.management.ThreadMXBean bean = (com.sun.management.ThreadMXBean) ManagementFactory.getThreadMXBean();
        long thread = Thread.currentThread().getId();
        String text = "farm a flock 90 dogs 0 wolf 9; farm b flock 80 dogs 1 wolf 7; farm c flock 70 dogs 0 wolf 5; "
            + "fence a b 1; fence b c 2; fence a c 0; share a c; feed night < 3 and not (dogs = 1); go flock - fence;";
        long[] fed = new long[3 * (text.length() / 24 + 1)];
        for (int i = 0; i < fed.length; i++) {
            fed[i] = Check.eight(text, i * 8);
        }
        long made = 0;
        for (int i = 0; i < 2; i++) {
            long before = bean.getThreadAllocatedBytes(thread);
            WolfHalf x = new WolfHalf();
            made = bean.getThreadAllocatedBytes(thread) - before;
            before = bean.getThreadAllocatedBytes(thread);
            useAll(x, fed);
            long used = bean.getThreadAllocatedBytes(thread) - before;
            yes("calls make " + used + " bytes", i == 0 || used < 2000);
        }
        yes("an object takes " + made + " bytes", made < 300_000);
    }

    private static void useAll(WolfHalf x, long[] fed) {
        for (int round = 0; round < 8; round++) {
            for (int i = 0; i < fed.length; i += 3) {
                x.feed(fed[i], fed[i + 1], fed[i + 2]);
            }
            x.mountain();
            x.mark(0, false);
            for (int nights = 1; nights <= 4; nights++) {
                x.nights(nights);
                x.bite(nights);
                x.mark(nights, false);
                x.rest(nights, 0);
                x.played(21, nights, 0);
                x.group(nights, 0, 1);
                x.pup(1, nights);
                x.loss(2, nights);
                x.whose(0, 1);
                x.chance(1);
            }
            x.mark(0, true);
        }
    }

    private static void yes(String what, boolean so) {
        CHECK.is(what, so, true);
    }
}
