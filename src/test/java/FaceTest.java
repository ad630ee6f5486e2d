import java.io.IOException;
import java.lang.reflect.Constructor;
import java.lang.reflect.Field;
import java.lang.reflect.Method;
import java.lang.reflect.Modifier;
import java.nio.file.Files;
import java.nio.file.Path;
import java.util.Arrays;
import java.util.Set;
import java.util.TreeSet;
import java.util.regex.Matcher;
import java.util.regex.Pattern;

/** The face is the document's and no more, and the source keeps to the rules of LANGUAGE.md that a text can show. */
public final class FaceTest {
    private static int wrong = 0;

    private static final Set<String> FACE = new TreeSet<>(Set.of(
        "int feed(int,int,int,int,int)", "boolean end(int)", "int text()", "int fault()", "int now(int)",
        "int order(int,int)", "int rank(int)", "int chosen(int,int)", "int fill(int)", "int why(int)",
        "int volume(int)", "int best()", "int were(int,int)", "int worth(int)", "int reach(int)",
        "int come(int,int,int,int,int)", "int withdraw(int)", "int amend(int,int,int)", "int mid(int)",
        "int run()", "int undo()"));

    public static void main(String[] args) throws IOException {
        face();
        names();
        source(Files.readString(Path.of("src/main/java/BlockCross.java")));
        System.out.println(wrong == 0 ? "FaceTest: all is as due" : "FaceTest: wrong");
        if (wrong != 0) System.exit(1);
    }

    private static void must(boolean holds, String what) {
        if (!holds) { wrong++; System.out.println("FaceTest: " + what); }
    }

    private static void face() {
        Class<?> c = BlockCross.class;
        must(Modifier.isPublic(c.getModifiers()) && Modifier.isFinal(c.getModifiers()), "the class is public and final");
        must(c.getPackageName().isEmpty(), "no package");
        Set<String> seen = new TreeSet<>();
        for (Method m : c.getDeclaredMethods()) {
            if (Modifier.isPrivate(m.getModifiers())) continue;
            must(Modifier.isPublic(m.getModifiers()) && !Modifier.isStatic(m.getModifiers()), m + " is public, not static");
            StringBuilder b = new StringBuilder(m.getReturnType().getName()).append(' ').append(m.getName()).append('(');
            for (Class<?> p : m.getParameterTypes()) b.append(b.charAt(b.length() - 1) == '(' ? "" : ",").append(p.getName());
            seen.add(b.append(')').toString());
        }
        must(seen.equals(FACE), "the methods are " + seen);
        for (Field f : c.getDeclaredFields()) {
            must(Modifier.isPrivate(f.getModifiers()) || f.getName().equals("NONE"), "the field " + f + " is private");
        }
        Constructor<?>[] made = c.getDeclaredConstructors();
        must(made.length == 1 && made[0].getParameterCount() == 0 && Modifier.isPublic(made[0].getModifiers()), "one constructor");
        must(BlockCross.NONE == -1, "NONE is -1");
    }

    private static void names() {
        must(BlockCross.class.getDeclaredClasses().length <= 12, "at most twelve classes");
        for (Class<?> inner : BlockCross.class.getDeclaredClasses()) {
            must(Modifier.isStatic(inner.getModifiers()), inner + " is static");
            long fields = Arrays.stream(inner.getDeclaredFields()).filter(f -> !Modifier.isStatic(f.getModifiers())).count();
            must(fields <= 20, inner + " has at most twenty fields");
            for (Method m : inner.getDeclaredMethods()) {
                must(FACE.stream().noneMatch(f -> f.contains(" " + m.getName() + "(")), m + " bears a name of the face");
                must(m.getParameterCount() <= 7, m + " takes at most seven");
            }
        }
    }

    private static void source(String text) {
        String bare = text.replaceAll("(?s)/\\*.*?\\*/", "").replaceAll("//[^\n]*", "").replaceAll("\"[^\"\n]*\"", "\"\"");
        for (String word : new String[] {"->", "::", "catch", "finally", "synchronized", "assert", "Exact", "instanceof",
            "System.out", "Random", "nanoTime", "currentTime", "double", "float", "hashCode", "toString", "volatile", "goto"}) {
            must(!bare.contains(word), "the source holds " + word);
        }
        Matcher imports = Pattern.compile("import ([^;]+);").matcher(bare);
        while (imports.find()) must(imports.group(1).equals("java.util.NoSuchElementException"), "import " + imports.group(1));
        must(!Pattern.compile("while \\(true\\)|for \\(;;\\)").matcher(bare).find(), "a loop without an end");
        must(text.chars().allMatch(c -> c == '\n' || c >= 32 && c < 127), "plain signs alone");
        // All that a run needs is made with the object: nothing is made in a call but what it throws.
        Matcher made = Pattern.compile("new (\\w+)").matcher(bare);
        while (made.find()) {
            must(Set.of("Tape", "Reader", "Desk", "Cross", "Past", "Sums", "int", "NoSuchElementException").contains(made.group(1)),
                "new " + made.group(1));
        }
    }
}
