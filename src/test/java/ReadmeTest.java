import java.lang.reflect.Method;
import java.lang.reflect.Modifier;
import java.nio.file.Files;
import java.nio.file.Path;
import java.util.Arrays;
import java.util.Set;
import java.util.TreeSet;
import java.util.regex.Matcher;
import java.util.regex.Pattern;

/** README.md: what it says that calls answer, and that it tells of every call. */
public final class ReadmeTest {
    private static final Due due = new Due();
    private static final Pattern LINE = Pattern.compile("(?m)^pads\\.(\\w+)\\(([^)]*)\\); *// (-?\\d+)");
    private static final Pattern ROW = Pattern.compile("(?m)^\\| `(\\w+)\\(([^)]*)\\)` \\|");

    private ReadmeTest() {
    }

    public static void main(String[] args) throws Exception {
        String readme = Files.readString(Path.of("README.md"));
        example(readme);
        calls(readme);
        due.close();
    }

    private static void example(String readme) {
        due.promise("README, Use");
        HailPads pads = new HailPads();
        Matcher line = LINE.matcher(readme);
        int lines = 0;
        while (line.find()) {
            Call call = new Call(line.group(1), numbers(line.group(2)));
            due.is(call.toString(), call.on(pads), Integer.parseInt(line.group(3)));
            lines++;
        }
        due.is("every line that calls was read", lines, readme.split("(?m)^pads\\.", -1).length - 1);
        due.isTrue("lines were read", lines > 0);
    }

    private static int[] numbers(String list) {
        return Arrays.stream(list.split(",")).map(String::trim).filter(text -> !text.isEmpty())
                .mapToInt(Integer::decode).toArray();
    }

    private static void calls(String readme) {
        due.promise("README, The calls");
        Set<String> told = new TreeSet<>();
        Matcher row = ROW.matcher(readme);
        while (row.find()) {
            String list = row.group(2);
            told.add(row.group(1) + " " + (list.isEmpty() ? 0 : list.split(",").length));
        }
        Set<String> face = new TreeSet<>();
        for (Method m : HailPads.class.getDeclaredMethods()) {
            if (Modifier.isPublic(m.getModifiers())) {
                face.add(m.getName() + " " + m.getParameterCount());
            }
        }
        due.isTrue("the table has " + told + ", the face " + face, told.equals(face));
    }
}
