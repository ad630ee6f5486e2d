import java.io.IOException;
import java.lang.reflect.InvocationTargetException;
import java.lang.reflect.Method;
import java.lang.reflect.Modifier;
import java.nio.file.Files;
import java.nio.file.Path;
import java.util.Arrays;
import java.util.List;
import java.util.NoSuchElementException;
import java.util.Set;
import java.util.TreeSet;
import java.util.regex.Matcher;
import java.util.regex.Pattern;
import java.util.stream.Stream;

/** README.md says what is so: each call that it shows answers what stands behind it, and it names each test. */
public final class ReadmeTest {
    private static final Pattern BLOCK = Pattern.compile("```java\n(.*?)```", Pattern.DOTALL);
    private static final Pattern CALL = Pattern.compile("(tell|desk\\.\\w+)\\((.*)\\);\\s*// (-?\\d+|true|false|throws)\\b.*");
    private static final Path TESTS = Path.of("src/test/java");
    private static int wrong = 0;

    private final BlockCross desk = new BlockCross();
    private final Set<String> shown = new TreeSet<>(Set.of("text"));

    public static void main(String[] args) throws IOException {
        String page = Files.readString(Path.of("README.md"));
        List<String> blocks = BLOCK.matcher(page).results().map(m -> m.group(1)).toList();
        must(blocks.size() == 2, "there are " + blocks.size() + " blocks of code");
        if (blocks.size() == 2) {
            String due = bare(Files.readString(TESTS.resolve("Due.java")));
            must(due.contains(bare(blocks.get(0))), "the first block is not what Due has");
            new ReadmeTest().calls(blocks.get(1));
        }
        tests(page);
        System.out.println(wrong == 0 ? "ReadmeTest: all is as the page says" : "ReadmeTest: wrong");
        if (wrong != 0) System.exit(1);
    }

    private static void must(boolean holds, String what) {
        if (!holds) { wrong++; System.out.println("ReadmeTest: " + what); }
    }

    private static String bare(String text) { return text.replaceAll("\\s+", " ").trim(); }

    private static void tests(String page) throws IOException {
        Set<String> there = new TreeSet<>();
        try (Stream<Path> files = Files.list(TESTS)) {
            files.forEach(f -> there.add(f.getFileName().toString().replace(".java", "")));
        }
        for (String name : there) must(page.contains("`" + name + "`"), "the page does not name " + name);
        Matcher named = Pattern.compile("`(\\w+Test)`").matcher(page);
        while (named.find()) must(there.contains(named.group(1)), "there is no " + named.group(1));
        must(Files.isExecutable(Path.of(".ci/run")), ".ci/run can't be run");
    }

    private void calls(String block) {
        for (String line : block.split("\n")) {
            Matcher call = CALL.matcher(line);
            if (call.matches()) {
                String got = answer(call.group(1), call.group(2));
                must(got.equals(call.group(3)), line + ": answered " + got);
            } else {
                must(line.isEmpty() || line.startsWith("// ") || line.equals("BlockCross desk = new BlockCross();"), "can't be read: " + line);
            }
        }
        for (Method m : BlockCross.class.getDeclaredMethods()) {
            must(!Modifier.isPublic(m.getModifiers()) || shown.contains(m.getName()), "no call shows " + m.getName());
        }
    }

    private String answer(String name, String arguments) {
        if (name.equals("tell")) return Integer.toString(Due.tell(desk, arguments.replaceAll("^desk, \"|\"$", "")));
        String bare = name.substring("desk.".length());
        shown.add(bare);
        Object[] values = arguments.isEmpty() ? new Object[0] : Arrays.stream(arguments.split(", ")).map(Integer::decode).toArray();
        Class<?>[] kinds = new Class<?>[values.length];
        Arrays.fill(kinds, int.class);
        try {
            return BlockCross.class.getMethod(bare, kinds).invoke(desk, values).toString();
        } catch (InvocationTargetException e) {
            return e.getCause() instanceof NoSuchElementException ? "throws" : e.getCause().toString();
        } catch (ReflectiveOperationException e) {
            return "no such call";
        }
    }
}
