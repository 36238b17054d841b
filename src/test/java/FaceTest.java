import java.lang.reflect.Array;
import java.lang.reflect.Constructor;
import java.lang.reflect.Field;
import java.lang.reflect.Method;
import java.lang.reflect.Modifier;
import java.nio.file.Files;
import java.nio.file.Path;
import java.util.Arrays;
import java.util.IdentityHashMap;
import java.util.List;
import java.util.Map;
import java.util.Set;
import java.util.TreeSet;
import java.util.regex.Matcher;
import java.util.regex.Pattern;

/** The document's face, and those rules of LANGUAGE.md that can be seen from outside. */
public final class FaceTest {
    private static final Due due = new Due();
    private static final Path SOURCE = Path.of("src/main/java/HailPads.java");
    private static final List<String> FACE = List.of("board 2", "dent 5", "clear 2", "table 3", "of 4",
            "leaning 2", "seen 3", "track 3", "through 1", "within 1", "map 4", "radar 3", "off 3", "feed 5",
            "end 1", "rules 0", "fault 0", "claim 4", "judged 2", "quarrel 2", "count 1", "status 0");

    private static final List<Class<?>> CONSTANTS = List.of(int.class, long.class, boolean.class, char.class,
            String.class, int[].class, long[].class, char[].class, byte[].class);

    private FaceTest() {
    }

    public static void main(String[] args) throws Exception {
        methods();
        membersAndClasses();
        words();
        lengths();
        room();
        due.close();
    }

    private static void methods() {
        due.promise("face");
        Set<String> shown = new TreeSet<>();
        Set<String> names = new TreeSet<>();
        for (Method m : HailPads.class.getDeclaredMethods()) {
            if (!Modifier.isPrivate(m.getModifiers())) {
                shown.add(m.getName() + " " + m.getParameterCount());
                names.add(m.getName());
                due.isTrue(m + " is public, not static, of int",
                        Modifier.isPublic(m.getModifiers()) && !Modifier.isStatic(m.getModifiers())
                        && m.getReturnType() == int.class
                        && Arrays.stream(m.getParameterTypes()).allMatch(t -> t == int.class)
                        && m.getExceptionTypes().length == 0);
            }
        }
        due.isTrue("methods " + shown, shown.equals(new TreeSet<>(FACE)));
        for (Class<?> c : everyClass()) {
            for (Method m : c.getDeclaredMethods()) {
                due.isTrue(m + " bears no public method's name",
                        c == HailPads.class && Modifier.isPublic(m.getModifiers()) || !names.contains(m.getName()));
                due.isTrue(m + " takes at most seven", m.getParameterCount() <= 7);
            }
        }
    }

    private static void membersAndClasses() {
        due.promise("members");
        due.isTrue("final and public", Modifier.isFinal(HailPads.class.getModifiers())
                && Modifier.isPublic(HailPads.class.getModifiers()));
        Constructor<?>[] made = HailPads.class.getDeclaredConstructors();
        due.isTrue("one public constructor", made.length == 1 && Modifier.isPublic(made[0].getModifiers())
                && made[0].getParameterCount() == 0);
        for (Field f : HailPads.class.getDeclaredFields()) {
            due.isTrue(f + " is private or NONE", Modifier.isPrivate(f.getModifiers()) || f.getName().equals("NONE"));
        }
        due.isTrue("NONE is public, static, final, an int", Arrays.stream(HailPads.class.getFields())
                .map(Field::toString).toList().equals(List.of("public static final int HailPads.NONE")));
        due.is("NONE", HailPads.NONE, -1);
        due.isTrue("at most twelve classes", everyClass().size() <= 12);
        for (Class<?> c : everyClass()) {
            int fields = 0;
            for (Field f : c.getDeclaredFields()) {
                boolean isStatic = Modifier.isStatic(f.getModifiers());
                fields += isStatic ? 0 : 1;
                due.isTrue(f + " static only as a constant", !isStatic || Modifier.isFinal(f.getModifiers())
                        && CONSTANTS.contains(f.getType()));
            }
            due.isTrue(c + " has at most twenty fields", fields <= 20);
            due.isTrue(c + " is static", c == HailPads.class || Modifier.isStatic(c.getModifiers()));
            due.isTrue(c + " is not shown", c == HailPads.class || !Modifier.isPublic(c.getModifiers())
                    && !Modifier.isProtected(c.getModifiers()));
        }
    }

    private static List<Class<?>> everyClass() {
        List<Class<?>> all = new java.util.ArrayList<>(List.of(HailPads.class.getDeclaredClasses()));
        all.add(HailPads.class);
        return all;
    }

    private static void words() throws Exception {
        due.promise("words");
        String text = Files.readString(SOURCE).replaceAll("(?s)/\\*.*?\\*/", "").replaceAll("//.*", "");
        for (String word : List.of("throw", "throws", "try", "catch", "synchronized", "assert", "package",
                "System.out", "Random", "Thread", "::", "->", "Object", "hashCode", "Exact")) {
            due.isTrue("no " + word, !Pattern.compile("(?<![A-Za-z])" + Pattern.quote(word) + "(?![A-Za-z])")
                    .matcher(text).find());
        }
        Matcher imports = Pattern.compile("import (.*?);").matcher(text);
        while (imports.find()) {
            due.isTrue("import " + imports.group(1), imports.group(1).equals("java.util.Arrays"));
        }
        // rows are made with the object, so that calls make nothing
        Matcher made = Pattern.compile("(?m)^(.*)\\bnew\\b.*$").matcher(text);
        while (made.find()) {
            due.isTrue("made in a field: " + made.group(), made.group(1).contains("private")
                    || made.group(1).contains("final"));
        }
    }

    private static void lengths() throws Exception {
        due.promise("lengths");
        int since = 0;
        int at = 0;
        for (String line : Files.readAllLines(SOURCE)) {
            at++;
            if (line.matches("( {4}| {8})[a-z].*\\) \\{")) {
                since = at;
            }
            if (line.matches("( {4}| {8})}") && since > 0) {
                due.isTrue("the method of line " + since + " is at most 60 long", at - since < 60);
                since = 0;
            }
        }
        due.isTrue("lines were read", at > 100);
    }

    private static void room() throws Exception {
        due.promise("room");
        Count made = new Count();
        made.add(new HailPads());
        due.isTrue(made.objects() + " objects and arrays are at most 60", made.objects() <= 60);
        due.isTrue(made.elements + " fields and elements are at most 6,000", made.elements <= 6000);
        for (Run run : List.of(States.some(), States.full())) {
            Count later = new Count();
            later.add(run.made());
            due.is("objects after calls", later.objects(), made.objects());
            due.is("elements after calls", later.elements, made.elements);
        }
    }

    /** What an object holds: objects and arrays, and the fields and elements in them. */
    private static final class Count {
        private final Map<Object, Object> met = new IdentityHashMap<>();
        private int elements = 0;

        int objects() {
            return met.size();
        }

        void add(Object held) throws Exception {
            if (held == null || met.put(held, held) != null) {
                return;
            }
            if (held.getClass().isArray()) {
                elements += Array.getLength(held);
                return;
            }
            for (Field f : held.getClass().getDeclaredFields()) {
                if (!Modifier.isStatic(f.getModifiers())) {
                    elements++;
                    f.setAccessible(true);
                    add(f.getType().isPrimitive() ? null : f.get(held));
                }
            }
        }
    }
}
